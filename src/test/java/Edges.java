import java.util.ArrayList;
import java.util.HashSet;
import java.util.List;
import java.util.Set;
import java.util.function.Supplier;
import java.util.function.ToLongFunction;

/**
 * What the tests of the document's edges share: a name for each of them, objects that have been used
 * before, and what has to hold around a call that is refused, that looks, or that can be undone. The tests
 * extend it, so that they may call all this by its plain name.
 */
abstract class Edges {
    static final int LEAST = Integer.MIN_VALUE;
    static final int MOST = Integer.MAX_VALUE;
    static final Class<?> OUTSIDE = IndexOutOfBoundsException.class;
    static final Class<?> ARGUMENT = IllegalArgumentException.class;
    static final Class<?> STATE = IllegalStateException.class;
    /** What stands in the buffer of an object that has been used. */
    static final String TYPED = "b3!";

    /** The row of 11 signs with the most arrangements: N is 1247400, M 478080; its rank is 38580. */
    static final String LARGE = "abcdefabcde";
    static final String LARGE_FIRST = "aabbccddeef";
    static final String LARGE_LAST = "feeddccbbaa";
    static final String ALIKE = "bbbbbbbbbbb";

    private static final Set<String> NAMES = new HashSet<>();

    interface Call extends ToLongFunction<SignRanks> {
    }

    /** Runs one test; its name begins with the promise's number and its method, and no other bears it. */
    static void test(String name, Runnable body) {
        Check.begin(name);
        Check.holds("there are two tests of this name", NAMES.add(name));
        try {
            body.run();
        } catch (Throwable thrown) {
            Check.holds("ended with " + thrown, false);
        }
        Check.begin("");
    }

    /** Each promise from the first to the last one has a test here whose name tells it. */
    static void end(String tests, int first, int last) {
        for (int promise = first; promise <= last; promise++) {
            String start = "promise " + promise + ", ";
            Check.holds("no test of promise " + promise, NAMES.stream().anyMatch(name -> name.startsWith(start)));
        }
        System.out.println(tests + ": " + NAMES.size() + " tests");
        Check.end(tests);
    }

    // ---- objects

    static void type(SignRanks x, String text) {
        for (char code : text.toCharArray()) {
            x.append(code);
        }
    }

    /** An object that was made, and given an arrangement, letter by letter: one state is saved. */
    static SignRanks of(String signs) {
        SignRanks x = new SignRanks();
        type(x, signs);
        x.read();
        return x;
    }

    /** One with six saved states, of three and of four signs, four arrangements gone to, and a text typed. */
    static SignRanks used(String signs) {
        SignRanks x = new SignRanks();
        x.next();
        x.goTo(5);
        x.jump(-2);
        x.put(0, 5);
        x.swap(0, 1);
        x.previous();
        x.take(2);
        type(x, signs);
        x.read();
        type(x, TYPED);
        return x;
    }

    /** As used, but with three saved states: one more is told by their number. */
    static SignRanks usedLittle(String signs) {
        SignRanks x = new SignRanks();
        x.next();
        x.goTo(5);
        type(x, signs);
        x.read();
        type(x, TYPED);
        return x;
    }

    static String row(SignRanks x) {
        StringBuilder signs = new StringBuilder();
        for (int place = 0; place < x.count(0); place++) {
            signs.append((char) ('a' + x.sign(place)));
        }
        return signs.toString();
    }

    static void shows(SignRanks x, String due) {
        Check.holds("the arrangement is " + row(x) + ", due is " + due, row(x).equals(due));
    }

    // ---- what can be seen

    /** What the looks answer: all counts, all places, all signs, and ranges and ranks at their ends. */
    static List<Long> looks(SignRanks x) {
        List<Long> seen = new ArrayList<>();
        for (int what = 0; what <= 13; what++) {
            seen.add((long) x.count(what));
        }
        for (int sign = 0; sign <= 5; sign++) {
            seen.add((long) x.many(sign));
        }
        for (int what = 0; what <= 2; what++) {
            seen.add((long) x.bestSwap(what));
        }
        int n = x.count(0);
        int all = x.count(2);
        for (int place = 0; place < n; place++) {
            seen.add((long) x.sign(place));
            seen.add((long) x.digit(place));
            seen.add((long) x.ifSwapped(place, 0));
            seen.add((long) x.ifSwapped(n - 1, place));
            seen.add((long) x.signOf(0, place));
            seen.add((long) x.signOf(all - 1, place));
            seen.add((long) x.having(0, all, place, 0));
            seen.add((long) x.having(all / 3, all, place, 1));
        }
        for (int k = 0; k <= n; k++) {
            for (int what = 0; what <= 2; what++) {
                seen.add((long) x.block(k, what));
            }
        }
        for (int rank : new int[] {0, all / 2, all - 1}) {
            seen.add((long) x.stepsTo(rank));
        }
        seen.add(Double.doubleToLongBits(x.share()));
        seen.add((long) x.firstError());
        seen.add(x.digest());
        return seen;
    }

    /** What lies below: the buffer's length, and the saved states one by one. It takes them away. */
    static List<Long> depths(SignRanks x) {
        List<Long> seen = new ArrayList<>();
        seen.add((long) x.clearBuffer());
        while (x.count(13) > 0 && seen.size() < 40) {
            seen.add((long) x.undo());
            for (int place = 0; place < x.count(0); place++) {
                seen.add((long) x.sign(place));
            }
            seen.add((long) x.count(12));
            seen.add(x.digest());
        }
        return seen;
    }

    // ---- what has to hold around a call

    private static String outcome(SignRanks x, Call call) {
        try {
            return "nothing, it answered " + call.applyAsLong(x);
        } catch (Throwable thrown) {
            return thrown.getClass().getName();
        }
    }

    /** The call throws just this, and every look, the buffer and all saved states are as they were. */
    static void refusedOn(Supplier<SignRanks> maker, Class<?> due, Call call) {
        SignRanks x = maker.get();
        List<Long> before = looks(x);
        String got = outcome(x, call);
        Check.holds("threw " + got + ", due is " + due.getName(), got.equals(due.getName()));
        Check.holds("a look answers otherwise behind the refused call", looks(x).equals(before));
        Check.holds("the buffer or a saved state is another one behind the refused call",
                depths(x).equals(depths(maker.get())));
    }

    /** The same of a new object's next arrangement and of a used one's. */
    static void refused(String signs, Class<?> due, Call call) {
        refusedOn(() -> of(signs), due, call);
        refusedOn(() -> used(signs), due, call);
    }

    /** The call answers this, and changes nothing that could be seen, now or behind an undo. */
    static void looksOn(Supplier<SignRanks> maker, long due, Call call) {
        SignRanks x = maker.get();
        List<Long> before = looks(x);
        Check.same("the look", call.applyAsLong(x), due);
        Check.holds("a look answers otherwise behind this look", looks(x).equals(before));
        Check.holds("the buffer or a saved state is another one behind this look",
                depths(x).equals(depths(maker.get())));
    }

    static void look(String signs, long due, Call call) {
        looksOn(() -> of(signs), due, call);
        looksOn(() -> used(signs), due, call);
    }

    /** The call answers this, and leads there. */
    static void leads(String signs, Call call, long due, String dueSigns) {
        for (SignRanks x : new SignRanks[] {of(signs), used(signs)}) {
            Check.same("the call", call.applyAsLong(x), due);
            shows(x, dueSigns);
        }
    }

    /**
     * The call saves one state, the last one: undo brings all back that was before, what is counted so
     * far too, but not the buffer. It counts so many arrangements gone to.
     */
    static void undoable(String signs, int goes, Call call) {
        SignRanks x = usedLittle(signs);
        List<Long> before = looks(x);
        Check.same("gone to before it", x.count(12), 2);
        call.applyAsLong(x);
        Check.same("saved states behind it", x.count(13), 4);
        Check.same("gone to behind it", x.count(12), 2 + goes);
        Check.same("undo()", x.undo(), 3);
        Check.holds("a look answers otherwise behind undo", looks(x).equals(before));
        Check.holds("an older saved state is another one", depths(x).equals(depths(usedLittle(signs))));
    }

    /** With six saved states the call drops the oldest one, and keeps the five others. */
    static void dropsOldest(String signs, Call call) {
        SignRanks x = used(signs);
        SignRanks twin = used(signs);
        call.applyAsLong(x);
        Check.same("saved states behind a seventh", x.count(13), 6);
        Check.same("undo()", x.undo(), 5);
        Check.same("gone to behind undo", x.count(12), 4);
        shows(x, signs);
        for (int left = 4; left >= 0; left--) {
            Check.same("undo()", x.undo(), left);
            twin.undo();
            Check.same("gone to behind undo", x.count(12), twin.count(12));
            shows(x, row(twin));
        }
        Check.same("the twin has the oldest one still", twin.count(13), 1);
    }
}
