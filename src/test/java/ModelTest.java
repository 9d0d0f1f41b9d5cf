import java.lang.reflect.InvocationTargetException;
import java.lang.reflect.Method;
import java.util.ArrayList;
import java.util.List;
import java.util.TreeMap;

/**
 * Promises 1 to 38 in long runs: the same calls on BusyChip and on PlainModel, each
 * answer, each exception and the digest behind it compared.
 */
public final class ModelTest {
    private static final int RUNS = Integer.getInteger("runs", 150);
    private static final int CALLS = 250;
    private static final int[] WILD = {
        Integer.MIN_VALUE, Integer.MIN_VALUE + 1, -1000, -2, -1, 0, 1, 2, 3, 4, 5, 6, 7, 8, 9, 10, 12, 13, 15, 16,
        20, 21, 32, 33, 60, 99, 100, 126, 127, 200, 201, 255, 256, 1000, Integer.MAX_VALUE - 1, Integer.MAX_VALUE,
    };
    /** Each name as often as it shall come among the calls. */
    private static final String[] OFTEN = {
        "arm", "arm", "arm", "arm", "arm", "load", "load", "load", "load", "load", "write", "write", "write", "erase",
        "erase", "erase", "lock", "post", "post", "post", "post", "post", "pass", "pass", "pass", "pass", "pass",
        "pass", "suspend", "suspend", "resume", "resume", "resume", "set", "set", "text", "text", "obey", "obey",
    };

    private final Method[] face = faceOf();
    private final TreeMap<String, Integer> answers = new TreeMap<>();
    private final TreeMap<String, Integer> seen = new TreeMap<>();
    private long seed;
    /** Whether this run leaves most works to the clerk: hands disturb him often. */
    private boolean clerkAlone;
    private BusyChip chip;
    private PlainModel model;
    private List<String> calls;

    public static void main(String[] args) throws Exception {
        ModelTest test = new ModelTest();
        for (int run = 0; run < RUNS; run++) {
            test.run(run);
        }
        test.bothKinds();
        Check.end("ModelTest");
    }

    private static Method[] faceOf() {
        Method[] methods = BusyChip.class.getMethods();
        List<Method> face = new ArrayList<>();
        for (Method method : methods) {
            if (method.getDeclaringClass() == BusyChip.class) {
                face.add(method);
            }
        }
        // reflection tells them in no certain order
        face.sort((a, b) -> a.getName().compareTo(b.getName()));
        return face.toArray(new Method[0]);
    }

    /** A number from 0 to below the bound; the same ones in each test run. */
    private int some(int bound) {
        seed = seed * 6364136223846793005L + 1442695040888963407L;
        return (int) ((seed >>> 33) % bound);
    }

    private void run(int number) throws Exception {
        seed = number * 7919L + 1;
        chip = new BusyChip();
        model = new PlainModel();
        calls = new ArrayList<>();
        boolean quick = number % 3 != 0;
        if (quick) {
            both("set", 1, 1 + some(6));
            both("set", 2, 1 + some(3));
            both("set", 4, 1 + some(3));
        }
        clerkAlone = number % 3 == 1;
        for (int i = 0; i < CALLS; i++) {
            someCall();
            if (chip.digest() != model.digest()) {
                fail("digest()", chip.digest(), model.digest());
                return;
            }
            lookAround();
        }
    }

    /** Counts how often the runs come to where the document's finer words matter. */
    private void lookAround() {
        saw("an erase that the clerk set aside", model.work(1, 4) == 1);
        saw("a write beside it", model.work(1, 4) == 1 && model.work(0, 0) == 1);
        saw("a write beside an erase that a hand set aside", model.work(1, 0) == 2 && model.work(1, 4) == 0
                && model.work(0, 0) == 1);
        saw("a write that is set aside", model.work(1, 0) == 1);
        saw("a clerk's erase that a hand set aside", model.work(1, 0) == 2 && model.work(1, 3) >= 0
                && model.work(1, 4) == 0);
        saw("stuck bits", model.count(12) > 0);
        saw("several stuck bits", model.count(12) > 3);
        saw("unsure pages", model.count(13) > 0);
        saw("locks", model.count(3) > 0);
        saw("orders for locked sectors alone", model.count(10) > 0 && model.freeIn() == 0);
        saw("works for ever", model.freeIn() == BusyChip.NONE);
        saw("nowhere to fit", model.fits() == BusyChip.NONE);
        saw("more than 8 values", model.count(11) > 8);
        saw("10 orders", model.count(10) == 10);
        saw("6 saved states", model.count(15) == 6);
        saw("several erasures", model.sector(0, 0) > 4);
    }

    private void saw(String what, boolean holds) {
        seen.merge(what, holds ? 1 : 0, Integer::sum);
    }

    private void someCall() throws Exception {
        String name = some(3) > 0 ? OFTEN[some(OFTEN.length)] : face[some(face.length)].getName();
        if (clerkAlone && List.of("suspend", "write", "erase", "lock", "obey").contains(name) && some(8) > 0) {
            name = some(2) == 0 ? "post" : "load";
        }
        if (some(16) == 0 && !name.equals("text")) {
            wild(name);
            return;
        }
        switch (name) {
            case "text" -> someText();
            case "load" -> {
                for (int i = some(20) == 0 ? 12 : 1; i > 0; i--) {
                    both("load", some(3) == 0 ? 255 - (1 << some(8)) : some(258) - 1);
                }
            }
            case "post" -> both("post", some(2), some(5) == 0 ? some(256) : some(8), some(10));
            case "write" -> both("write", some(256));
            case "erase" -> both("erase", some(4) == 0 ? some(8) : some(2));
            case "pass" -> both("pass", some(4) == 0 ? 1 + some(200) : 1 + some(8));
            case "set" -> both("set", some(5), 1 + some(some(2) == 0 ? 9 : 3));
            case "lock" -> both("lock", some(5) == 0 ? some(6) : some(3), some(2));
            case "withdraw" -> both("withdraw", some(20));
            case "cut", "goBack", "unload", "freeze" -> {
                if (some(4) == 0) {
                    both(name);
                }
            }
            default -> wild(name);
        }
    }

    private void wild(String name) throws Exception {
        int[] arguments = new int[methodOf(name).getParameterCount()];
        for (int i = 0; i < arguments.length; i++) {
            arguments[i] = some(3) == 0 ? WILD[some(WILD.length)] : some(8);
        }
        both(name, arguments);
    }

    private void someText() throws Exception {
        if (some(2) == 0) {
            both("clearBuffer");
        }
        StringBuilder text = new StringBuilder();
        for (int parts = 1 + some(5); parts > 0; parts--) {
            text.append(somePart()).append(parts > 1 ? ";" : "");
        }
        if (some(4) == 0) {
            text.setCharAt(some(text.length()), (char) (some(2) == 0 ? 33 + some(94) : ":;!0123456789abcdefgtw".charAt(some(22))));
        }
        for (int i = 0; i < text.length(); i++) {
            both("append", text.charAt(i));
        }
        both("firstError");
        if (some(3) == 0) {
            both("obey");
        }
    }

    private String somePart() {
        String urgency = some(2) == 0 ? "!" + some(10) : "";
        switch (some(4)) {
            case 0:
                return "t" + (1 + some(some(3) == 0 ? 101 : 9));
            case 1:
                return "e" + some(some(8) == 0 ? 10 : 8) + urgency;
            default:
                StringBuilder part = new StringBuilder("w" + some(some(8) == 0 ? 300 : 256) + ":");
                for (int i = 1 + some(some(8) == 0 ? 9 : 3); i > 0; i--) {
                    part.append(Integer.toHexString(256 + some(256)).substring(1));
                }
                return part + urgency;
        }
    }

    private Method methodOf(String name) {
        for (Method method : face) {
            if (method.getName().equals(name)) {
                return method;
            }
        }
        throw new IllegalStateException(name);
    }

    private void both(String name, int... arguments) throws Exception {
        Object[] boxed = new Object[arguments.length];
        Class<?>[] types = new Class<?>[arguments.length];
        StringBuilder call = new StringBuilder(name).append('(');
        for (int i = 0; i < arguments.length; i++) {
            boxed[i] = arguments[i];
            types[i] = int.class;
            call.append(i == 0 ? "" : ", ").append(arguments[i]);
        }
        calls.add(call.append(')').toString());
        Object want = answerOf(PlainModel.class.getDeclaredMethod(name, types), model, boxed);
        long before = want instanceof Class ? chip.digest() : 0;
        Object got = answerOf(methodOf(name), chip, boxed);
        answers.merge(name + (want instanceof Class<?> kind ? " throws " + kind.getSimpleName() : ""), 1, Integer::sum);
        if (!want.equals(got)) {
            fail(calls.get(calls.size() - 1), got, want);
        }
        if (want instanceof Class && chip.digest() != before) {
            fail(calls.get(calls.size() - 1) + " was refused, and digest()", chip.digest(), before);
        }
        Check.same("as the model", 0, 0);
    }

    /** What a call answers; the class of the exception, if it throws one. */
    private static Object answerOf(Method method, Object object, Object[] arguments) throws Exception {
        try {
            return method.invoke(object, arguments);
        } catch (InvocationTargetException e) {
            RuntimeException thrown = (RuntimeException) e.getCause();
            if (object instanceof BusyChip) {
                Check.byHand(method.getName(), thrown);
            }
            return thrown.getClass();
        }
    }

    private void fail(String call, Object got, Object want) {
        Check.tell(String.join("; ", calls) + "\n  " + call + " answered " + got + ", the model " + want);
    }

    /** The runs are worth something only if each call was answered, and was refused in each way that it can be. */
    private void bothKinds() {
        for (Method method : face) {
            Check.isTrue("some " + method.getName() + " is answered", answers.containsKey(method.getName()));
            for (Class<?> thrown : method.getExceptionTypes()) {
                String refusal = method.getName() + " throws " + thrown.getSimpleName();
                Check.isTrue("some " + refusal, answers.containsKey(refusal));
            }
        }
        for (String what : seen.keySet()) {
            Check.isTrue("the runs come to " + what, seen.get(what) > 0);
        }
        if (Boolean.getBoolean("tell")) {
            System.out.println(answers);
            System.out.println(seen);
        }
    }
}
