import java.util.concurrent.Callable;

/** What the tests count with: answers that are due, and exceptions that are due and change nothing. */
final class Check {
    private static int wrong = 0;
    private static int checks = 0;
    private static String test = "";

    private Check() {
    }

    static void same(String what, long got, long due) {
        checks++;
        if (got != due) {
            complain(what + " answered " + got + ", due is " + due);
        }
    }

    static void same(String what, double got, double due) {
        checks++;
        if (Double.doubleToLongBits(got) != Double.doubleToLongBits(due)) {
            complain(what + " answered " + got + ", due is " + due);
        }
    }

    static void holds(String what, boolean held) {
        checks++;
        if (!held) {
            complain(what);
        }
    }

    /** The call throws just this class, not one below it, and leaves the object as it was. */
    static void refused(SignRanks x, String what, Class<?> due, Callable<?> call) {
        checks++;
        long before = x.digest();
        String got = "nothing";
        try {
            call.call();
        } catch (Throwable thrown) {
            got = thrown.getClass().getName();
        }
        if (!got.equals(due.getName())) {
            complain(what + " threw " + got + ", due is " + due.getName());
        }
        if (x.digest() != before) {
            complain(what + " threw and changed the object");
        }
    }

    static void outside(SignRanks x, String what, Callable<?> call) {
        refused(x, what, IndexOutOfBoundsException.class, call);
    }

    static void badArgument(SignRanks x, String what, Callable<?> call) {
        refused(x, what, IllegalArgumentException.class, call);
    }

    static void badState(SignRanks x, String what, Callable<?> call) {
        refused(x, what, IllegalStateException.class, call);
    }

    /** What is wrong from here on is told with the test's name. */
    static void begin(String name) {
        test = name + ": ";
    }

    private static void complain(String text) {
        wrong++;
        if (wrong <= 50) {
            System.out.println(test + text);
        }
    }

    static void end(String test) {
        System.out.println(test + ": " + checks + " checks, " + wrong + " wrong");
        if (wrong != 0 || checks == 0) {
            System.exit(1);
        }
    }
}
