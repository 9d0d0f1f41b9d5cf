import java.io.PrintWriter;
import java.io.StringWriter;
import java.nio.file.Files;
import java.nio.file.Path;
import java.util.ArrayList;
import java.util.LinkedHashMap;
import java.util.LinkedHashSet;
import java.util.List;
import java.util.Map;
import java.util.Set;
import java.util.regex.Matcher;
import java.util.regex.Pattern;
import java.util.spi.ToolProvider;
import java.util.stream.Stream;

/** The rules of ../shared/LANGUAGE.md that the compiled class shows: it is read as the JDK's javap tells it. */
public final class LanguageTest {
    private static final Path COMPILED = Path.of("build/own");
    private static final Set<String> LIBRARY = Set.of(
            "java/lang/Object.<init>", "java/lang/Integer.bitCount", "java/lang/Math.min",
            "java/lang/System.arraycopy", "java/util/Arrays.fill", "[I.clone",
            "java/lang/IllegalArgumentException.<init>", "java/lang/IllegalStateException.<init>",
            "java/lang/IndexOutOfBoundsException.<init>");
    private static final Pattern CLASS = Pattern.compile("^(?:[a-z]+ )*class ([\\w$]+) .*");
    private static final Pattern METHOD = Pattern.compile("^  (?! )(?:.* )?([\\w$]+)\\(.*");
    private static final Pattern STATIC_BLOCK = Pattern.compile("^  static \\{\\};");
    private static final Pattern CODE = Pattern.compile("^ +[0-9]+: ([a-z_0-9]+).*");
    private static final Pattern CALLED = Pattern.compile(".* // (?:Interface)?Method ([^:]+):.*");
    private static final Pattern LINE = Pattern.compile("^ +line ([0-9]+): .*");

    /** The methods by class and name, with their code. */
    private static final Map<String, Code> METHODS = new LinkedHashMap<>();

    private static final class Code {
        final String ofClass;
        final String name;
        final List<String> steps = new ArrayList<>();
        final Set<String> calls = new LinkedHashSet<>();
        int firstLine = Integer.MAX_VALUE;
        int lastLine = 0;
        boolean catches = false;

        Code(String ofClass, String name) {
            this.ofClass = ofClass;
            this.name = name;
        }

        @Override
        public String toString() {
            return ofClass + "." + name;
        }
    }

    public static void main(String[] args) throws Exception {
        ToolProvider javap = ToolProvider.findFirst("javap").orElse(null);
        if (javap == null) {
            System.out.println("LanguageTest: no javap in this JDK, the compiled class was not looked at");
            return;
        }
        read(told(javap));
        Check.isTrue("code being found", METHODS.size() > 100);
        METHODS.values().forEach(LanguageTest::keepsTheRules);
        for (String method : METHODS.keySet()) {
            isShallow(List.of(method));
        }
        // rule 7: a write's ticks for a cell, looked at just before
        for (Code method : METHODS.values()) {
            long due = method.toString().equals("BusyChip$State.goOnWriting") ? 2 : 0;
            Check.same("rule 7: divisors that are no constants in " + method, due, openDivisors(method));
        }
        Check.end("LanguageTest");
    }

    private static String told(ToolProvider javap) throws Exception {
        List<String> arguments = new ArrayList<>(List.of("-c", "-p", "-l"));
        try (Stream<Path> files = Files.list(COMPILED)) {
            files.map(Path::toString).filter(file -> file.matches(".*/BusyChip(\\$\\w+)?\\.class")).sorted()
                    .forEach(arguments::add);
        }
        StringWriter text = new StringWriter();
        int code = javap.run(new PrintWriter(text), new PrintWriter(System.out), arguments.toArray(new String[0]));
        Check.same("javap's exit code", 0, code);
        return text.toString();
    }

    private static void read(String text) {
        String ofClass = "";
        Code method = new Code("", "");
        for (String line : text.lines().toList()) {
            Matcher named = CLASS.matcher(line);
            Matcher opened = METHOD.matcher(line);
            if (named.matches()) {
                ofClass = named.group(1);
            } else if (STATIC_BLOCK.matcher(line).matches()) {
                method = opened(ofClass, "<clinit>");
            } else if (opened.matches()) {
                method = opened(ofClass, opened.group(1).equals(ofClass) ? "<init>" : opened.group(1));
            } else {
                readInside(method, line);
            }
        }
    }

    /** Methods of the same name would be held as one, and their calls together. */
    private static Code opened(String ofClass, String name) {
        return METHODS.computeIfAbsent(ofClass + "." + name, key -> new Code(ofClass, name));
    }

    private static void readInside(Code method, String line) {
        Matcher step = CODE.matcher(line);
        Matcher lineNumber = LINE.matcher(line);
        if (step.matches()) {
            method.steps.add(step.group(1));
            Matcher called = CALLED.matcher(line);
            if (called.matches()) {
                String callee = called.group(1).replace("\"", "");
                boolean isAlone = !callee.contains(".");
                method.calls.add(isAlone ? method.ofClass + "." + callee : callee);
            }
        } else if (lineNumber.matches()) {
            int number = Integer.parseInt(lineNumber.group(1));
            method.firstLine = Math.min(method.firstLine, number);
            method.lastLine = Math.max(method.lastLine, number);
        } else if (line.contains("Exception table:")) {
            method.catches = true;
        }
    }

    private static void keepsTheRules(Code method) {
        for (String called : method.calls) {
            Check.isTrue("rule 4: " + method + " calling " + called + ", which the class or the library has",
                    METHODS.containsKey(called) || LIBRARY.contains(called));
        }
        boolean isConstructor = method.name.equals("<init>");
        Check.isTrue("rule 6: no try in " + method, !method.catches);
        Check.isTrue("rule 6: no throw in a constructor: " + method, !isConstructor || !method.steps.contains("athrow"));
        Check.isTrue("rule 6: throw in the face alone: " + method,
                method.ofClass.equals("BusyChip") || !method.steps.contains("athrow"));
        // the constructors' lines are those of the fields too, which lie all over the class
        Check.isTrue("rule 11: some sixty lines: " + method, isConstructor || method.name.equals("<clinit>")
                || method.lastLine - method.firstLine <= 60);
        Check.isTrue("rules 3, 10: no lambda, no joining of texts by +: " + method, !method.steps.contains("invokedynamic"));
        long made = method.steps.stream().filter(step -> step.equals("new") || step.contains("newarray")).count();
        long thrown = method.steps.stream().filter(step -> step.equals("athrow")).count();
        Check.isTrue("rule 12: nothing made but exceptions: " + method,
                isConstructor || method.name.equals("<clinit>") || made == thrown);
        boolean hasCast = method.steps.contains("checkcast");
        Check.isTrue("rule 6: no cast but that of a clone: " + method, !hasCast || method.calls.contains("[I.clone"));
    }

    /** Divisions by what stands in no constant just before. */
    private static long openDivisors(Code method) {
        long found = 0;
        for (int i = 1; i < method.steps.size(); i++) {
            boolean divides = method.steps.get(i).matches("[il](div|rem)");
            if (divides && !method.steps.get(i - 1).matches("iconst_[1-5]|bipush|sipush|ldc.*")) {
                found++;
            }
        }
        return found;
    }

    /** The calls that stand open: no method calls itself, and they go at most eight deep. */
    private static void isShallow(List<String> open) {
        Code last = METHODS.get(open.get(open.size() - 1));
        if (last == null) {
            return;
        }
        boolean fits = open.size() <= 8 && Set.copyOf(open).size() == open.size();
        Check.isTrue("rules 8, 11: at most eight deep, no recursion: " + open, fits);
        if (fits) {
            for (String called : last.calls) {
                List<String> deeper = new ArrayList<>(open);
                deeper.add(called);
                isShallow(deeper);
            }
        }
    }
}
