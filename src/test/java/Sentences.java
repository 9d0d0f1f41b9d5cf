import java.io.IOException;
import java.nio.file.Files;
import java.nio.file.Path;
import java.util.ArrayList;
import java.util.HashSet;
import java.util.LinkedHashMap;
import java.util.List;
import java.util.Map;
import java.util.Set;

/**
 * Tests by the words of ../shared/DOC.md: each one names the section (a promise, or a term)
 * and the words in it that it holds. An object of a test gets at most 512 calls.
 */
abstract class Sentences extends Check {
    private static final Path DOCUMENT = Path.of("../shared/DOC.md");
    /** What lies outside of these is held by FaceTest, or promises nothing. */
    private static final Set<String> NO_PROMISES = Set.of("BusyChip", "The public face", "Not promised");
    /** A foreword, and what may be answered in any way. */
    private static final List<String> FREE = List.of(
            "A small chip whose cells are written behind a busy flag: ", "what later calls answer is free");

    private static final Map<String, List<String>> SECTIONS = sections();
    private static final Map<String, Set<String>> HELD = new LinkedHashMap<>();
    private static String section = "";

    interface Test {
        void run();
    }

    interface NumberCall {
        long answer(int number);
    }

    /** The sections with their sentences, cut at each "." and ";" too; none if the document is not there. */
    private static Map<String, List<String>> sections() {
        Map<String, List<String>> found = new LinkedHashMap<>();
        List<String> clauses = new ArrayList<>();
        boolean inCode = false;
        for (String line : lines()) {
            if (line.startsWith("```")) {
                inCode = !inCode;
            } else if (!inCode && line.startsWith("#")) {
                clauses = new ArrayList<>();
                found.put(line.replaceAll("^#+ ", "").replaceAll("^(Promise [0-9]+):.*", "$1"), clauses);
            } else if (!inCode && !line.isBlank()) {
                addClauses(clauses, line);
            }
        }
        return found;
    }

    private static List<String> lines() {
        try {
            return Files.exists(DOCUMENT) ? Files.readAllLines(DOCUMENT) : List.of();
        } catch (IOException e) {
            throw new IllegalStateException(e);
        }
    }

    private static void addClauses(List<String> clauses, String line) {
        // "1. An erase .." is one sentence, not two
        for (String clause : line.strip().split("(?<=[.;])(?<!^[0-9]\\.)\\s+")) {
            clauses.add(clause.replaceAll("[.;]$", ""));
        }
    }

    /** The tests behind this hold words of that section. */
    static void in(String name) {
        section = name;
        isTrue("the document has a section " + name, SECTIONS.isEmpty() || SECTIONS.containsKey(name));
    }

    /** The words are the section's, and hold. */
    static void held(String words, Test test) {
        about(section + ", \"" + words + "\": ");
        HELD.computeIfAbsent(section, name -> new HashSet<>()).add(words);
        isTrue("being in the document",
                SECTIONS.isEmpty() || String.join("; ", SECTIONS.getOrDefault(section, List.of())).contains(words));
        int before = looks();
        try {
            test.run();
        } catch (RuntimeException e) {
            tell("the test threw " + e + " at " + e.getStackTrace()[0]);
        }
        isTrue("being looked at", looks() > before);
        about("");
    }

    /** Each sentence of the document has a test of its own. */
    static void everySentence() {
        if (SECTIONS.isEmpty()) {
            System.out.println("no " + DOCUMENT + ": whether each sentence has a test was not looked at");
        }
        for (String name : SECTIONS.keySet()) {
            for (String clause : SECTIONS.get(name)) {
                if (!NO_PROMISES.contains(name) && FREE.stream().noneMatch(clause::startsWith)) {
                    isTrue("a test of " + name + ", \"" + clause + "\"", isHeld(name, clause));
                }
            }
        }
    }

    private static boolean isHeld(String name, String clause) {
        return HELD.getOrDefault(name, Set.of()).stream()
                .anyMatch(words -> clause.contains(words) || words.contains(clause));
    }

    // ---- numbers out of range

    /** The call refuses all numbers below and above, far ones and those that a narrower type would take for others. */
    private static void refusedOutside(BusyChip chip, int least, int most, Class<? extends RuntimeException> want,
            NumberCall call) {
        int[] numbers = {
            least - 1, most + 1, least - 256, most + 256, least + 65536, Integer.MIN_VALUE, Integer.MIN_VALUE + most,
            Integer.MAX_VALUE,
        };
        for (int number : numbers) {
            refused("with " + number, chip, want, () -> call.answer(number));
        }
    }

    static void argumentOutside(BusyChip chip, int least, int most, NumberCall call) {
        refusedOutside(chip, least, most, IllegalArgumentException.class, call);
    }

    static void indexOutside(BusyChip chip, int least, int most, NumberCall call) {
        refusedOutside(chip, least, most, IndexOutOfBoundsException.class, call);
    }

    // ---- what tests need often

    /** The call saves the state from before it, and undo() restores it; at most 5 states are saved before. */
    static void undone(String what, BusyChip chip, Call call) {
        int saved = chip.count(15);
        long before = chip.digest();
        call.answer();
        same(what + ": saved states", saved + 1, chip.count(15));
        same(what + ": undo()", saved, chip.undo());
        same(what + ": the state behind undo()", before, chip.digest());
    }

    /** The call saves no state. */
    static void savesNothing(String what, BusyChip chip, Call call) {
        int saved = chip.count(15);
        call.answer();
        same(what + ": saved states", saved, chip.count(15));
    }

    static void post(BusyChip chip, int cell, int urgency, int... values) {
        load(chip, values);
        chip.post(0, cell, urgency);
    }

    /** Does orders as a text, as one call that saves one state. */
    static BusyChip obeyed(BusyChip chip, String orders) {
        text(chip, orders);
        chip.obey();
        return chip;
    }

    static BusyChip obeyed(String orders) {
        return obeyed(new BusyChip(), orders);
    }

    /** A chip of which the sectors hold 0 in all bits, by erases that were lost. */
    static BusyChip emptied(int... sectors) {
        BusyChip chip = new BusyChip();
        chip.set(0, 1);
        chip.set(1, 1);
        for (int sector : sectors) {
            chip.arm();
            chip.erase(sector);
            chip.pass(4);
            chip.cut();
        }
        return chip;
    }

    static void works(BusyChip chip, int aside, int... due) {
        for (int what = 0; what < due.length; what++) {
            same("work(" + aside + ", " + what + ")", due[what], chip.work(aside, what));
        }
    }

    static void orders(BusyChip chip, int... numbers) {
        same("orders", numbers.length, chip.count(10));
        for (int rank = 0; rank < numbers.length; rank++) {
            same("order(" + rank + ", 0)", numbers[rank], chip.order(rank, 0));
        }
    }

    static void cells(BusyChip chip, int first, int... due) {
        for (int i = 0; i < due.length; i++) {
            same("cell(" + (first + i) + ", 0)", due[i], chip.cell(first + i, 0));
        }
    }
}
