import java.io.IOException;
import java.lang.reflect.Method;
import java.lang.reflect.Modifier;
import java.nio.charset.StandardCharsets;
import java.nio.file.Files;
import java.nio.file.Path;
import java.util.ArrayList;
import java.util.List;

/** README.md: its commands run as they stand there, its example is the one that is compiled, and no call is left out. */
public final class ReadmeTest {
    private static final Path README = Path.of("README.md");
    private static final Path EXAMPLE = Path.of("examples/Example.java");
    /** It runs this test, and so can't be run here. */
    private static final String ALL_TESTS = ".ci/run";

    public static void main(String[] args) throws Exception {
        String readme = Files.readString(README);
        example(readme);
        commands(readme);
        calls(readme);
        Check.end("ReadmeTest");
    }

    private static void example(String readme) throws IOException {
        List<String> shown = blocks(readme, "java");
        Check.same("programs shown in README.md", 1, shown.size());
        Check.isTrue("README.md showing " + EXAMPLE + " as it is", shown.contains(Files.readString(EXAMPLE)));
    }

    /** Each block of commands in its turn: later ones may need what earlier ones made. */
    private static void commands(String readme) throws Exception {
        boolean namesAllTests = false;
        StringBuilder printed = new StringBuilder();
        for (String block : blocks(readme, "sh")) {
            if (block.strip().equals(ALL_TESTS)) {
                namesAllTests = true;
                Check.isTrue(ALL_TESTS + " being executable", Files.isExecutable(Path.of(ALL_TESTS)));
            } else {
                printed.append(run(block));
            }
        }
        Check.isTrue("README.md naming " + ALL_TESTS, namesAllTests);
        List<String> shown = blocks(readme, "text");
        Check.same("outputs shown in README.md", 1, shown.size());
        for (String output : shown) {
            Check.isTrue("the example printing what README.md shows; printed: " + printed,
                    printed.toString().startsWith(output));
        }
    }

    /** Returns what the commands print. */
    private static String run(String commands) throws Exception {
        ProcessBuilder shell = new ProcessBuilder("sh", "-e", "-c", commands);
        shell.redirectErrorStream(true);
        Process process = shell.start();
        process.getOutputStream().close();
        String printed = new String(process.getInputStream().readAllBytes(), StandardCharsets.UTF_8);
        int code = process.waitFor();
        Check.same("the commands \"" + commands.strip() + "\" of README.md, printing \"" + printed.strip() + "\", ended;"
                + " their exit code", 0, code);
        return printed;
    }

    private static void calls(String readme) {
        String words = readme.substring(readme.indexOf("The calls, in their"), readme.indexOf("Worth knowing"));
        for (Method method : BusyChip.class.getDeclaredMethods()) {
            if (Modifier.isPublic(method.getModifiers())) {
                Check.isTrue("README.md naming " + method.getName(), words.contains("`" + method.getName() + "`"));
            }
        }
    }

    /** What stands in the blocks that are marked as this language. */
    private static List<String> blocks(String text, String language) {
        List<String> found = new ArrayList<>();
        String opening = "\n```" + language + "\n";
        int from = text.indexOf(opening);
        while (from >= 0) {
            int first = from + opening.length();
            int end = text.indexOf("\n```\n", first - 1);
            if (end < 0) {
                Check.isTrue("each block of README.md having an end", false);
                return found;
            }
            found.add(text.substring(first, end + 1));
            from = text.indexOf(opening, end);
        }
        return found;
    }
}
