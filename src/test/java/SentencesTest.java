/** Promises 1 to 38 and the terms, sentence by sentence: each test names the words of ../shared/DOC.md that it holds. */
public final class SentencesTest {
    public static void main(String[] args) {
        WorkSentences.all();
        ClerkSentences.all();
        HandSentences.all();
        TextSentences.all();
        LookSentences.all();
        PlanSentences.all();
        Sentences.everySentence();
        Check.end("SentencesTest");
    }
}
