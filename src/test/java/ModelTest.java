import java.lang.reflect.InvocationTargetException;
import java.lang.reflect.Method;

/**
 * Long runs of mixed calls, right and wrong ones, each answered by SignRanks as by the Model; a run has the
 * 512 calls that the document promises of an object.
 */
public final class ModelTest {
    private static final int CALLS = 512;
    private static final int RUNS = 400;
    /** The calls by which runs are typed: clearBuffer, at most 12 append, firstError. */
    private static final int MOST_TYPED = 14;
    /** The Model writes all arrangements down; most runs stay where they are few. */
    private static final int MANY = 3000;
    private static final int LARGE_CALLS = 120;
    private static final String[] LARGE = {"abcdefabcde", "fe2d2c2b2a2", "a3c2b3f2d", "d5cbac2b", "ef3e2f2e3"};

    // a method's name, and for each argument what it is: a rank, a smooth rank, a way to jump, a place,
    // a place or the end, steps, a sign, a code, a number of at most 13, a bound of a range
    private static final String[] CALLABLE = {
        "goTo r", "goTo r", "goToSmooth m", "goToSmooth m", "jump j", "jump j", "next", "next", "previous",
        "previous", "nextSmooth", "nextSmooth", "swap p p", "turn p p", "turn p p", "carry p c", "carry p c",
        "put e s", "put e s", "take p", "take p", "append k", "append k", "append k", "append k", "append k",
        "clearBuffer", "firstError", "firstError", "read", "read", "undo", "undo", "undo", "sign p", "digit p",
        "many s", "block e w", "count w", "count w", "ifSwapped p p", "signOf r p", "having b b p s",
        "having b b p s", "stepsTo r", "stepsTo r", "bestSwap w", "share", "digest", "digest"
    };
    private static final int[] EXTREMES = {Integer.MIN_VALUE, Integer.MAX_VALUE, -1, 0, 1, 12, 100};

    private static long seed = 1;

    private static int chosen(int below) {
        seed = seed * 6364136223846793005L + 1442695040888963407L;
        return (int) Long.remainderUnsigned(seed >>> 33, below);
    }

    private static int argument(char kind, Model model) {
        int size = model.size();
        if (chosen(14) == 0) {
            return EXTREMES[chosen(EXTREMES.length)];
        }
        switch (kind) {
            case 'r':
                return chosen(10) == 0 ? size - chosen(3) : chosen(size);
            case 'm':
                return chosen(5) == 0 ? model.count(4) - chosen(3) : chosen(model.count(4) + 1);
            case 'j':
                return chosen(2 * size + 1) - size;
            case 'b':
                return chosen(4) == 0 ? size - chosen(2) : chosen(size + 1);
            case 'p':
                return chosen(model.places() + (chosen(6) == 0 ? 1 : 0));
            case 'e':
                return chosen(model.places() + 1 + (chosen(6) == 0 ? 1 : 0));
            case 'c':
                return chosen(22);
            case 's':
                return chosen(6 + (chosen(6) == 0 ? 1 : 0));
            case 'w':
                return chosen(chosen(2) == 0 ? 3 : 15);
            default:
                return chosen(8) == 0 ? 30 + chosen(100) : chosen(3) == 0 ? '1' + chosen(9) : 'a' + chosen(7);
        }
    }

    private static Object answer(Object on, Method method, Object[] arguments) throws IllegalAccessException {
        try {
            return method.invoke(on, arguments);
        } catch (InvocationTargetException thrown) {
            return thrown.getCause().getClass().getName();
        }
    }

    private static Method named(Class<?> type, String name) {
        for (Method method : type.getDeclaredMethods()) {
            if (method.getName().equals(name)) {
                return method;
            }
        }
        throw new IllegalArgumentException(name);
    }

    private static void call(SignRanks x, Model model, String callable, StringBuilder told) throws Exception {
        String[] parts = callable.split(" ");
        Object[] arguments = new Object[parts.length - 1];
        told.append(' ').append(parts[0]);
        for (int i = 0; i < arguments.length; i++) {
            arguments[i] = argument(parts[i + 1].charAt(0), model);
            told.append(' ').append(arguments[i]);
        }
        Object got = answer(x, named(SignRanks.class, parts[0]), arguments);
        Object due = answer(model, named(Model.class, parts[0]), arguments);
        Check.holds(told + " answered " + got + ", due is " + due, due.equals(got));
        if (told.length() > 300) {
            told.delete(0, told.length() - 300);
        }
    }

    private static boolean changesSigns(String callable) {
        return callable.startsWith("put") || callable.startsWith("take") || callable.startsWith("read");
    }

    private static void type(SignRanks x, Model model, String text) {
        for (char code : text.toCharArray()) {
            Check.same("append", x.append(code), model.append(code));
        }
        Check.same("firstError of " + text, x.firstError(), model.firstError());
    }

    /** Types runs of few letters, so that longer rows whose arrangements are few come about; answers its calls. */
    private static int typeRuns(SignRanks x, Model model) {
        Check.same("clearBuffer", x.clearBuffer(), model.clearBuffer());
        int letters = 1 + chosen(2);
        int from = chosen(5);
        int runs = 1 + chosen(6);
        StringBuilder text = new StringBuilder();
        for (int run = 0; run < runs; run++) {
            text.append((char) ('a' + from + chosen(letters))).append((char) ('2' + chosen(3)));
        }
        type(x, model, text.toString());
        return text.length() + 2;
    }

    private static void run(int number) throws Exception {
        seed = 1000 + number;
        SignRanks x = new SignRanks();
        Model model = new Model();
        StringBuilder told = new StringBuilder("run ").append(number).append(":");
        int calls = 0;
        while (calls < CALLS - 1) {
            String callable = CALLABLE[chosen(CALLABLE.length)];
            if (model.size() <= MANY || !changesSigns(callable) || callable.startsWith("take")) {
                call(x, model, callable, told);
                calls++;
            }
            if (chosen(40) == 0 && calls + MOST_TYPED < CALLS) {
                calls += typeRuns(x, model);
            }
        }
        Check.same(told + " digest, the call " + CALLS, x.digest(), model.digest());
    }

    private static void largeRun(String text) throws Exception {
        seed = text.hashCode();
        SignRanks x = new SignRanks();
        Model model = new Model();
        type(x, model, text);
        Check.same("read", x.read(), model.read());
        StringBuilder told = new StringBuilder("large run ").append(text).append(":");
        for (int calls = 0; calls < LARGE_CALLS; calls++) {
            String callable = CALLABLE[chosen(CALLABLE.length)];
            if (!changesSigns(callable) && !callable.equals("undo")) {
                call(x, model, callable, told);
            }
        }
        Check.same(told + " digest", x.digest(), model.digest());
        Model.forget();
    }

    public static void main(String[] args) throws Exception {
        for (int number = 0; number < RUNS; number++) {
            run(number);
        }
        for (String text : LARGE) {
            largeRun(text);
        }
        Check.end("ModelTest");
    }
}
