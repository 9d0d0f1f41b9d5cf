import java.io.IOException;
import java.lang.reflect.Constructor;
import java.lang.reflect.Field;
import java.lang.reflect.Method;
import java.lang.reflect.Modifier;
import java.nio.file.Files;
import java.nio.file.Path;
import java.util.Arrays;
import java.util.List;
import java.util.TreeSet;

/** The public face: no more and no less than the document's; and what LANGUAGE.md forbids by a plain word. */
public final class FaceTest {
    private static final List<String> METHODS = List.of(
            "arm() int IllegalStateException",
            "load(int) int IllegalArgumentException IllegalStateException",
            "unload() int",
            "write(int) int IndexOutOfBoundsException IllegalStateException",
            "erase(int) int IndexOutOfBoundsException IllegalStateException",
            "lock(int,int) int IllegalArgumentException IllegalStateException",
            "freeze() int IllegalStateException",
            "suspend() int IllegalStateException",
            "resume() int IllegalStateException",
            "cut() int",
            "post(int,int,int) int IllegalArgumentException IndexOutOfBoundsException IllegalStateException",
            "withdraw(int) int IndexOutOfBoundsException",
            "pass(int) int IllegalArgumentException",
            "set(int,int) int IndexOutOfBoundsException IllegalArgumentException",
            "append(int) int IllegalArgumentException IllegalStateException",
            "clearBuffer() int",
            "firstError() int",
            "obey() int IllegalArgumentException",
            "keep() int",
            "goBack() int IllegalStateException",
            "undo() int IllegalStateException",
            "read(int) int IndexOutOfBoundsException IllegalStateException",
            "cell(int,int) int IndexOutOfBoundsException IllegalArgumentException",
            "sector(int,int) int IndexOutOfBoundsException IllegalArgumentException",
            "work(int,int) int IllegalArgumentException",
            "order(int,int) int IndexOutOfBoundsException IllegalArgumentException",
            "count(int) int IllegalArgumentException",
            "setting(int) int IndexOutOfBoundsException",
            "why(int,int) int IllegalArgumentException IndexOutOfBoundsException",
            "misses(int) int IndexOutOfBoundsException",
            "fits() int",
            "freeIn() int",
            "leastWorn() int",
            "commonest() int",
            "onesShare() double",
            "meanWear() float",
            "digest() long");

    public static void main(String[] args) throws Exception {
        methods();
        fieldsAndConstructors();
        classesInside();
        source();
        Check.end("FaceTest");
    }

    private static void methods() {
        TreeSet<String> found = new TreeSet<>();
        for (Method method : BusyChip.class.getDeclaredMethods()) {
            if (!Modifier.isPrivate(method.getModifiers())) {
                Check.isTrue("public, an object's: " + method.getName(),
                        (method.getModifiers() & (Modifier.PUBLIC | Modifier.STATIC)) == Modifier.PUBLIC);
                found.add(told(method));
            } else {
                Check.isTrue("no private method bears a public name: " + method.getName(), !isOfFace(method.getName()));
            }
        }
        Check.isTrue("the methods of the face: " + found, found.equals(new TreeSet<>(METHODS)));
    }

    private static String told(Method method) {
        StringBuilder text = new StringBuilder(method.getName()).append('(');
        for (int i = 0; i < method.getParameterCount(); i++) {
            text.append(i == 0 ? "" : ",").append(method.getParameterTypes()[i].getSimpleName());
        }
        text.append(") ").append(method.getReturnType().getSimpleName());
        for (Class<?> thrown : method.getExceptionTypes()) {
            text.append(' ').append(thrown.getSimpleName());
        }
        return text.toString();
    }

    private static boolean isOfFace(String name) {
        return METHODS.stream().anyMatch(method -> method.startsWith(name + "("));
    }

    private static void fieldsAndConstructors() throws Exception {
        Check.isTrue("the class is public and final",
                (BusyChip.class.getModifiers() & (Modifier.PUBLIC | Modifier.FINAL)) == (Modifier.PUBLIC | Modifier.FINAL));
        for (Field field : BusyChip.class.getDeclaredFields()) {
            boolean isConstant = field.getName().equals("NONE");
            Check.isTrue("private, but for NONE: " + field.getName(),
                    isConstant == !Modifier.isPrivate(field.getModifiers()));
            Check.isTrue("static fields are final: " + field.getName(),
                    !Modifier.isStatic(field.getModifiers()) || Modifier.isFinal(field.getModifiers()));
        }
        Check.same("NONE", -1, BusyChip.class.getField("NONE").getInt(null));
        Constructor<?>[] constructors = BusyChip.class.getDeclaredConstructors();
        Check.same("one constructor", 1, constructors.length);
        Check.isTrue("a public one", Modifier.isPublic(constructors[0].getModifiers()));
    }

    private static void classesInside() {
        Class<?>[] inside = BusyChip.class.getDeclaredClasses();
        Check.isTrue("at most some twelve classes", inside.length < 12);
        for (Class<?> one : inside) {
            Check.isTrue("not public: " + one, (one.getModifiers() & (Modifier.PUBLIC | Modifier.PROTECTED)) == 0);
            Check.isTrue("static: " + one, Modifier.isStatic(one.getModifiers()));
            for (Method method : one.getDeclaredMethods()) {
                Check.isTrue("no name of the face: " + method, !isOfFace(method.getName()));
                Check.isTrue("at most seven parameters: " + method, method.getParameterCount() <= 7);
            }
            long fields = Arrays.stream(one.getDeclaredFields()).filter(f -> !Modifier.isStatic(f.getModifiers())).count();
            Check.isTrue("some twenty fields: " + one, fields <= 20);
        }
    }

    static String sourceText() {
        try {
            return Files.readString(Path.of("src/main/java/BusyChip.java"));
        } catch (IOException e) {
            throw new IllegalStateException(e);
        }
    }

    private static void source() {
        String source = sourceText();
        String[] words = {
            "try", "catch", "finally", "synchronized", "assert", "package", "instanceof", "->", "::", "System.out",
            "Random", "nanoTime", "Thread", "doubleToLongBits(", "floatToIntBits(", "protected ",
        };
        for (String word : words) {
            Check.isTrue("the source has no " + word, !source.matches("(?s).*(?<![A-Za-z])"
                    + java.util.regex.Pattern.quote(word) + "(?![A-Za-z]).*"));
        }
        List<String> imports = source.lines().filter(line -> line.startsWith("import ")).toList();
        Check.isTrue("imports: " + imports, imports.equals(List.of("import java.util.Arrays;")));
    }
}
