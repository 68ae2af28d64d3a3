import java.util.ArrayList;
import java.util.LinkedHashMap;
import java.util.List;
import java.util.Map;
import java.util.TreeSet;
import java.util.function.Supplier;

/** Each boundary case that the document names of promises 23 to 29, from ifSwapped to digest, has its test. */
public final class WouldBeEdgesTest extends Edges {
    private static final String CABAB_ORDER = "aabbc aabcb aacbb ababc abacb abbac abbca abcab abcba acabb acbab acbba "
            + "baabc baacb babac babca bacab bacba bbaac bbaca bbcaa bcaab bcaba bcbaa caabb cabab cabba cbaab cbaba "
            + "cbbaa";

    private WouldBeEdgesTest() {
    }

    public static void main(String[] args) {
        ifSwappedPlaces();
        ifSwappedRows();
        signOfRanks();
        signOfPlaces();
        signOfRows();
        havingRanges();
        havingBounds();
        havingPlacesAndSigns();
        havingRows();
        stepsToRanks();
        stepsToRows();
        bestSwapRanges();
        bestSwapRows();
        share();
        digests();
        digestLists();
        end("WouldBeEdgesTest", 23, 29);
    }

    private static void ifSwappedPlaces() {
        test("promise 23, ifSwapped: the place 0 and the last one", () -> look("abcde", 105, x -> x.ifSwapped(0, 4)));
        test("promise 23, ifSwapped: the last place and the place 0", () -> look("abcde", 105, x -> x.ifSwapped(4, 0)));
        test("promise 23, ifSwapped: the greater place first", () -> look("abcde", 14, x -> x.ifSwapped(3, 1)));
        test("promise 23, ifSwapped: the place 0 with itself", () -> look("bca", 3, x -> x.ifSwapped(0, 0)));
        test("promise 23, ifSwapped: the last place with itself", () -> look("bca", 3, x -> x.ifSwapped(2, 2)));
        test("promise 23, ifSwapped: the place -1 is refused", () -> refused("bca", OUTSIDE, x -> x.ifSwapped(-1, 0)));
        test("promise 23, ifSwapped: the place n is refused", () -> refused("bca", OUTSIDE, x -> x.ifSwapped(3, 0)));
        test("promise 23, ifSwapped: the place of the least int is refused",
                () -> refused("bca", OUTSIDE, x -> x.ifSwapped(LEAST, 0)));
        test("promise 23, ifSwapped: the place of the greatest int is refused",
                () -> refused("bca", OUTSIDE, x -> x.ifSwapped(MOST, 0)));
        test("promise 23, ifSwapped: the other place -1 is refused",
                () -> refused("bca", OUTSIDE, x -> x.ifSwapped(0, -1)));
        test("promise 23, ifSwapped: the other place n is refused",
                () -> refused("bca", OUTSIDE, x -> x.ifSwapped(0, 3)));
        test("promise 23, ifSwapped: the other place of the least int is refused",
                () -> refused("bca", OUTSIDE, x -> x.ifSwapped(0, LEAST)));
        test("promise 23, ifSwapped: the other place of the greatest int is refused",
                () -> refused("bca", OUTSIDE, x -> x.ifSwapped(0, MOST)));
        test("promise 23, ifSwapped: a place that isn't there with itself is refused", () -> {
            refused("bca", OUTSIDE, x -> x.ifSwapped(3, 3));
            refused("bca", OUTSIDE, x -> x.ifSwapped(-1, -1));
        });
    }

    private static void ifSwappedRows() {
        test("promise 23, ifSwapped: like signs", () -> look("abab", 1, x -> x.ifSwapped(0, 2)));
        test("promise 23, ifSwapped: one sign with itself", () -> look("f", 0, x -> x.ifSwapped(0, 0)));
        test("promise 23, ifSwapped: one sign, the place 1 is refused",
                () -> refused("f", OUTSIDE, x -> x.ifSwapped(1, 0)));
        test("promise 23, ifSwapped: one sign, the other place 1 is refused",
                () -> refused("f", OUTSIDE, x -> x.ifSwapped(0, 1)));
        test("promise 23, ifSwapped: 11 like signs", () -> look(ALIKE, 0, x -> x.ifSwapped(0, 10)));
        test("promise 23, ifSwapped: 11 signs, the place 0 with each other one", () -> {
            int[] due = {38580, 242700, 504780, 742920, 973320, 1167660, 38580, 280110, 516996, 746948, 974829};
            for (int place = 0; place < due.length; place++) {
                int other = place;
                look(LARGE, due[other], x -> x.ifSwapped(0, other));
            }
        });
        test("promise 23, ifSwapped: 11 signs, the place 10 with each other one", () -> {
            int[] due = {974829, 181023, 60061, 41160, 38580, 38460, 38685, 38601, 38585, 38581, 38580};
            for (int place = 0; place < due.length; place++) {
                int other = place;
                look(LARGE, due[other], x -> x.ifSwapped(other, 10));
            }
        });
        test("promise 23, ifSwapped: 11 signs, the place 11 is refused",
                () -> refused(LARGE, OUTSIDE, x -> x.ifSwapped(11, 0)));
        test("promise 23, ifSwapped: 11 signs, the other place 11 is refused",
                () -> refused(LARGE, OUTSIDE, x -> x.ifSwapped(0, 11)));
        test("promise 23, ifSwapped: it is what swap would answer", () -> {
            SignRanks x = used("cabab");
            for (int place = 0; place < 5; place++) {
                for (int other = 0; other < 5; other++) {
                    int due = x.ifSwapped(place, other);
                    Check.same("swap", x.swap(place, other), due);
                    x.undo();
                }
            }
        });
    }

    private static void signOfRanks() {
        test("promise 24, signOf: the rank 0", () -> look("bca", 1, x -> x.signOf(0, 1)));
        test("promise 24, signOf: the rank N - 1", () -> look("bca", 0, x -> x.signOf(5, 2)));
        test("promise 24, signOf: the rank of the present one", () -> look("bca", 1, x -> x.signOf(3, 0)));
        test("promise 24, signOf: the rank -1 is refused", () -> refused("bca", ARGUMENT, x -> x.signOf(-1, 0)));
        test("promise 24, signOf: the rank N is refused", () -> refused("bca", ARGUMENT, x -> x.signOf(6, 2)));
        test("promise 24, signOf: the rank of the least int is refused",
                () -> refused("bca", ARGUMENT, x -> x.signOf(LEAST, 1)));
        test("promise 24, signOf: the rank of the greatest int is refused",
                () -> refused("bca", ARGUMENT, x -> x.signOf(MOST, 1)));
    }

    private static void signOfPlaces() {
        test("promise 24, signOf: the place 0", () -> look("bca", 2, x -> x.signOf(4, 0)));
        test("promise 24, signOf: the last place", () -> look("bca", 1, x -> x.signOf(4, 2)));
        test("promise 24, signOf: the place -1 is refused", () -> refused("bca", OUTSIDE, x -> x.signOf(0, -1)));
        test("promise 24, signOf: the place n is refused", () -> refused("bca", OUTSIDE, x -> x.signOf(5, 3)));
        test("promise 24, signOf: the place of the least int is refused",
                () -> refused("bca", OUTSIDE, x -> x.signOf(0, LEAST)));
        test("promise 24, signOf: the place of the greatest int is refused",
                () -> refused("bca", OUTSIDE, x -> x.signOf(0, MOST)));
        test("promise 24, signOf: both wrong: no such place comes first", () -> {
            refused("bca", OUTSIDE, x -> x.signOf(6, 3));
            refused("bca", OUTSIDE, x -> x.signOf(-1, -1));
            refused("bca", OUTSIDE, x -> x.signOf(LEAST, MOST));
        });
    }

    private static void signOfRows() {
        test("promise 24, signOf: one sign, the rank 0", () -> look("f", 5, x -> x.signOf(0, 0)));
        test("promise 24, signOf: one sign, the rank 1 is refused", () -> refused("f", ARGUMENT, x -> x.signOf(1, 0)));
        test("promise 24, signOf: one sign, the place 1 is refused", () -> refused("f", OUTSIDE, x -> x.signOf(0, 1)));
        test("promise 24, signOf: 11 like signs", () -> look(ALIKE, 1, x -> x.signOf(0, 10)));
        test("promise 24, signOf: 11 like signs, the rank 1 is refused",
                () -> refused(ALIKE, ARGUMENT, x -> x.signOf(1, 10)));
        test("promise 24, signOf: 11 signs, the rank N is refused",
                () -> refused(LARGE, ARGUMENT, x -> x.signOf(1247400, 0)));
        test("promise 24, signOf: 11 signs, the place 11 is refused",
                () -> refused(LARGE, OUTSIDE, x -> x.signOf(0, 11)));
        spells(LARGE, 0, LARGE_FIRST);
        spells(LARGE, 1, "aabbccddefe");
        spells(LARGE, 38580, LARGE);
        spells(LARGE, 623699, "cebadbdcfea");
        spells(LARGE, 623700, "cebadbdeacf");
        spells(LARGE, 1247399, LARGE_LAST);
        String[] order = CABAB_ORDER.split(" ");
        for (int rank = 0; rank < order.length; rank++) {
            spells("cabab", rank, order[rank]);
        }
    }

    private static void spells(String signs, int rank, String due) {
        test("promise 24, signOf: each place of the rank " + rank + " of " + signs, () -> {
            SignRanks x = used(signs);
            for (int place = 0; place < due.length(); place++) {
                Check.same("signOf", x.signOf(rank, place), due.charAt(place) - 'a');
            }
            shows(x, signs);
        });
    }

    private static void havingRanges() {
        test("promise 25, having: an empty range at 0", () -> look("cabab", 0, x -> x.having(0, 0, 0, 0)));
        test("promise 25, having: an empty range at N", () -> look("cabab", 0, x -> x.having(30, 30, 0, 2)));
        test("promise 25, having: an empty range in the middle", () -> look("cabab", 0, x -> x.having(25, 25, 0, 2)));
        test("promise 25, having: the whole range", () -> look("cabab", 12, x -> x.having(0, 30, 0, 0)));
        test("promise 25, having: the whole range, at the last place", () -> look("cabab", 6, x -> x.having(0, 30, 4, 2)));
        test("promise 25, having: the first one alone", () -> look("cabab", 1, x -> x.having(0, 1, 0, 0)));
        test("promise 25, having: the last one alone", () -> look("cabab", 1, x -> x.having(29, 30, 0, 2)));
        test("promise 25, having: from is one of them", () -> look("cabab", 1, x -> x.having(11, 12, 0, 0)));
        test("promise 25, having: to is none of them", () -> look("cabab", 0, x -> x.having(11, 12, 0, 1)));
        test("promise 25, having: to N is the last one too", () -> look("cabab", 6, x -> x.having(1, 30, 0, 2)));
        test("promise 25, having: to N - 1 is without the last one", () -> look("cabab", 5, x -> x.having(0, 29, 0, 2)));
        test("promise 25, having: from 1 is without the first one", () -> look("cabab", 11, x -> x.having(1, 30, 0, 0)));
        test("promise 25, having: on both sides of the present one", () -> look("cabab", 3, x -> x.having(24, 27, 1, 0)));
    }

    private static void havingBounds() {
        test("promise 25, having: from -1 is refused", () -> refused("cabab", ARGUMENT, x -> x.having(-1, 5, 0, 0)));
        test("promise 25, having: from and to -1 is refused",
                () -> refused("cabab", ARGUMENT, x -> x.having(-1, -1, 0, 0)));
        test("promise 25, having: from N + 1 is refused", () -> refused("cabab", ARGUMENT, x -> x.having(31, 31, 0, 0)));
        test("promise 25, having: from of the least int is refused",
                () -> refused("cabab", ARGUMENT, x -> x.having(LEAST, 5, 0, 0)));
        test("promise 25, having: from of the greatest int is refused",
                () -> refused("cabab", ARGUMENT, x -> x.having(MOST, MOST, 0, 0)));
        test("promise 25, having: to one less than from is refused",
                () -> refused("cabab", ARGUMENT, x -> x.having(5, 4, 0, 0)));
        test("promise 25, having: from N to N - 1 is refused",
                () -> refused("cabab", ARGUMENT, x -> x.having(30, 29, 0, 0)));
        test("promise 25, having: from 1 to 0 is refused", () -> refused("cabab", ARGUMENT, x -> x.having(1, 0, 0, 0)));
        test("promise 25, having: from 0 to -1 is refused", () -> refused("cabab", ARGUMENT, x -> x.having(0, -1, 0, 0)));
        test("promise 25, having: to N + 1 is refused", () -> refused("cabab", ARGUMENT, x -> x.having(0, 31, 0, 0)));
        test("promise 25, having: from N to N + 1 is refused",
                () -> refused("cabab", ARGUMENT, x -> x.having(30, 31, 0, 0)));
        test("promise 25, having: to of the least int is refused",
                () -> refused("cabab", ARGUMENT, x -> x.having(0, LEAST, 0, 0)));
        test("promise 25, having: to of the greatest int is refused",
                () -> refused("cabab", ARGUMENT, x -> x.having(0, MOST, 0, 0)));
        test("promise 25, having: from the greatest int to the least is refused",
                () -> refused("cabab", ARGUMENT, x -> x.having(MOST, LEAST, 0, 0)));
        test("promise 25, having: from the least int to the greatest is refused",
                () -> refused("cabab", ARGUMENT, x -> x.having(LEAST, MOST, 0, 0)));
    }

    private static void havingPlacesAndSigns() {
        test("promise 25, having: the place -1 is refused",
                () -> refused("cabab", OUTSIDE, x -> x.having(0, 30, -1, 0)));
        test("promise 25, having: the place n is refused", () -> refused("cabab", OUTSIDE, x -> x.having(0, 30, 5, 0)));
        test("promise 25, having: the place of the least int is refused",
                () -> refused("cabab", OUTSIDE, x -> x.having(0, 30, LEAST, 0)));
        test("promise 25, having: the place of the greatest int is refused",
                () -> refused("cabab", OUTSIDE, x -> x.having(0, 30, MOST, 0)));
        test("promise 25, having: the place n of an empty range is refused",
                () -> refused("cabab", OUTSIDE, x -> x.having(3, 3, 5, 0)));
        test("promise 25, having: the sign 5, that is not there", () -> look("cabab", 0, x -> x.having(0, 30, 0, 5)));
        test("promise 25, having: the sign 5, that is there", () -> look("fba", 2, x -> x.having(0, 6, 2, 5)));
        test("promise 25, having: the sign -1 is refused",
                () -> refused("cabab", ARGUMENT, x -> x.having(0, 30, 0, -1)));
        test("promise 25, having: the sign 6 is refused", () -> refused("cabab", ARGUMENT, x -> x.having(0, 30, 0, 6)));
        test("promise 25, having: the sign of the least int is refused",
                () -> refused("cabab", ARGUMENT, x -> x.having(0, 30, 0, LEAST)));
        test("promise 25, having: the sign of the greatest int is refused",
                () -> refused("cabab", ARGUMENT, x -> x.having(0, 30, 0, MOST)));
        test("promise 25, having: the sign 6 of an empty range is refused",
                () -> refused("cabab", ARGUMENT, x -> x.having(3, 3, 0, 6)));
        test("promise 25, having: place and from wrong: no such place comes first",
                () -> refused("cabab", OUTSIDE, x -> x.having(-1, 5, 5, 0)));
        test("promise 25, having: place and to wrong: no such place comes first", () -> {
            refused("cabab", OUTSIDE, x -> x.having(0, 31, -1, 0));
            refused("cabab", OUTSIDE, x -> x.having(5, 4, -1, 0));
        });
        test("promise 25, having: place and sign wrong: no such place comes first",
                () -> refused("cabab", OUTSIDE, x -> x.having(0, 30, 5, 6)));
        test("promise 25, having: all wrong: no such place comes first",
                () -> refused("cabab", OUTSIDE, x -> x.having(31, -1, -1, -1)));
    }

    private static void havingRows() {
        test("promise 25, having: one sign, the whole range", () -> look("f", 1, x -> x.having(0, 1, 0, 5)));
        test("promise 25, having: one sign, another one", () -> look("f", 0, x -> x.having(0, 1, 0, 0)));
        test("promise 25, having: one sign, to 2 is refused", () -> refused("f", ARGUMENT, x -> x.having(0, 2, 0, 5)));
        test("promise 25, having: one sign, the place 1 is refused",
                () -> refused("f", OUTSIDE, x -> x.having(0, 1, 1, 5)));
        test("promise 25, having: 11 like signs, the whole range", () -> look(ALIKE, 1, x -> x.having(0, 1, 10, 1)));
        test("promise 25, having: 11 like signs, an empty range", () -> look(ALIKE, 0, x -> x.having(1, 1, 10, 1)));
        test("promise 25, having: 11 signs, the whole range", () -> look(LARGE, 226800, x -> x.having(0, 1247400, 0, 0)));
        test("promise 25, having: 11 signs, the whole range, the sign that is there once",
                () -> look(LARGE, 113400, x -> x.having(0, 1247400, 10, 5)));
        test("promise 25, having: 11 signs, below the present one",
                () -> look(LARGE, 1266, x -> x.having(0, 38580, 10, 0)));
        test("promise 25, having: 11 signs, in the middle",
                () -> look(LARGE, 179010, x -> x.having(1000, 1000000, 5, 2)));
        test("promise 25, having: 11 signs, all but the last one",
                () -> look(LARGE, 226799, x -> x.having(0, 1247399, 10, 0)));
        test("promise 25, having: 11 signs, all but the first one",
                () -> look(LARGE, 113399, x -> x.having(1, 1247400, 10, 5)));
        test("promise 25, having: 11 signs, to N + 1 is refused",
                () -> refused(LARGE, ARGUMENT, x -> x.having(0, 1247401, 0, 0)));
        test("promise 25, having: each single one, each place, each sign", () -> {
            String[] order = CABAB_ORDER.split(" ");
            for (int rank = 0; rank < order.length; rank++) {
                SignRanks x = of("cabab");
                for (int place = 0; place < 5; place++) {
                    for (int sign = 0; sign <= 5; sign++) {
                        int due = order[rank].charAt(place) - 'a' == sign ? 1 : 0;
                        Check.same("having", x.having(rank, rank + 1, place, sign), due);
                    }
                }
            }
        });
    }

    private static void stepsToRanks() {
        test("promise 26, stepsTo: the rank 0", () -> look("bca", 2, x -> x.stepsTo(0)));
        test("promise 26, stepsTo: the rank N - 1", () -> look("bca", 1, x -> x.stepsTo(5)));
        test("promise 26, stepsTo: to itself, none", () -> look("bca", 0, x -> x.stepsTo(3)));
        test("promise 26, stepsTo: the rank -1 is refused", () -> refused("bca", ARGUMENT, x -> x.stepsTo(-1)));
        test("promise 26, stepsTo: the rank N is refused", () -> refused("bca", ARGUMENT, x -> x.stepsTo(6)));
        test("promise 26, stepsTo: the least int is refused", () -> refused("bca", ARGUMENT, x -> x.stepsTo(LEAST)));
        test("promise 26, stepsTo: the greatest int is refused", () -> refused("bca", ARGUMENT, x -> x.stepsTo(MOST)));
        test("promise 26, stepsTo: from the first one to the last one", () -> look("abc", 3, x -> x.stepsTo(5)));
        test("promise 26, stepsTo: from the last one to the first one", () -> look("cba", 3, x -> x.stepsTo(0)));
    }

    private static void steps(String signs, int... due) {
        test("promise 26, stepsTo: each rank from " + signs, () -> {
            SignRanks x = used(signs);
            for (int rank = 0; rank < due.length; rank++) {
                Check.same("stepsTo(" + rank + ")", x.stepsTo(rank), due[rank]);
            }
            shows(x, signs);
        });
    }

    private static void stepsToRows() {
        test("promise 26, stepsTo: one sign, itself", () -> look("f", 0, x -> x.stepsTo(0)));
        test("promise 26, stepsTo: one sign, the rank 1 is refused", () -> refused("f", ARGUMENT, x -> x.stepsTo(1)));
        test("promise 26, stepsTo: 11 like signs", () -> look(ALIKE, 0, x -> x.stepsTo(0)));
        test("promise 26, stepsTo: 11 like signs, the rank 1 is refused",
                () -> refused(ALIKE, ARGUMENT, x -> x.stepsTo(1)));
        test("promise 26, stepsTo: like signs aren't moved past one another", () -> look("aab", 2, x -> x.stepsTo(2)));
        test("promise 26, stepsTo: 11 signs, the greatest way",
                () -> look(LARGE_FIRST, 50, x -> x.stepsTo(1247399)));
        test("promise 26, stepsTo: 11 signs, the greatest way back", () -> look(LARGE_LAST, 50, x -> x.stepsTo(0)));
        test("promise 26, stepsTo: 11 signs, to the first one, as many as inversions",
                () -> look(LARGE, 15, x -> x.stepsTo(0)));
        test("promise 26, stepsTo: 11 signs, to the middle", () -> look(LARGE, 16, x -> x.stepsTo(623700)));
        test("promise 26, stepsTo: 11 signs, the rank N is refused",
                () -> refused(LARGE, ARGUMENT, x -> x.stepsTo(1247400)));
        steps("abc", 0, 1, 1, 2, 2, 3);
        steps("bca", 2, 3, 1, 0, 2, 1);
        steps("abab", 1, 0, 1, 1, 2, 3);
        steps("baab", 2, 1, 2, 0, 1, 2);
        steps("bbaa", 4, 3, 2, 2, 1, 0);
        steps("cbaa", 5, 4, 4, 3, 3, 2, 3, 2, 1, 2, 1, 0);
        for (String signs : new String[] {"cabab", "bbaac", "abcba", "fedcba", "abcabc", "aabbaab", "cbacab"}) {
            stepsWalked(signs);
        }
    }

    /** Walks over all exchanges of neighbors, and counts how far each arrangement is; an object tells 100 ranks. */
    private static void stepsWalked(String signs) {
        Map<String, Integer> far = new LinkedHashMap<>();
        List<String> reached = new ArrayList<>(List.of(signs));
        far.put(signs, 0);
        for (int i = 0; i < reached.size(); i++) {
            String row = reached.get(i);
            for (int place = 0; place + 1 < row.length(); place++) {
                String exchanged = row.substring(0, place) + row.charAt(place + 1) + row.charAt(place)
                        + row.substring(place + 2);
                if (far.putIfAbsent(exchanged, far.get(row) + 1) == null) {
                    reached.add(exchanged);
                }
            }
        }
        test("promise 26, stepsTo: each rank from " + signs + ", walked to", () -> {
            List<String> order = new ArrayList<>(new TreeSet<>(reached));
            SignRanks x = of(signs);
            for (int rank = 0; rank < order.size(); rank++) {
                x = rank % 100 == 0 ? of(signs) : x;
                Check.same("stepsTo(" + rank + ")", x.stepsTo(rank), far.get(order.get(rank)));
            }
        });
    }

    private static void bestSwapRanges() {
        test("promise 27, bestSwap: what 0, the greatest rank", () -> look("abc", 5, x -> x.bestSwap(0)));
        test("promise 27, bestSwap: what 1, the lower place", () -> look("abc", 0, x -> x.bestSwap(1)));
        test("promise 27, bestSwap: what 2, the greater place", () -> look("abc", 2, x -> x.bestSwap(2)));
        test("promise 27, bestSwap: what -1 is refused", () -> refused("abc", ARGUMENT, x -> x.bestSwap(-1)));
        test("promise 27, bestSwap: what 3 is refused", () -> refused("abc", ARGUMENT, x -> x.bestSwap(3)));
        test("promise 27, bestSwap: the least int is refused", () -> refused("abc", ARGUMENT, x -> x.bestSwap(LEAST)));
        test("promise 27, bestSwap: the greatest int is refused", () -> refused("abc", ARGUMENT, x -> x.bestSwap(MOST)));
        test("promise 27, bestSwap: NONE is -1", () -> Check.same("NONE", SignRanks.NONE, -1));
        for (int what = 0; what <= 2; what++) {
            int asked = what;
            test("promise 27, bestSwap: one sign, what " + what + ", NONE", () -> look("f", -1, x -> x.bestSwap(asked)));
        }
        test("promise 27, bestSwap: one sign, what -1 is refused", () -> refused("f", ARGUMENT, x -> x.bestSwap(-1)));
        test("promise 27, bestSwap: one sign, what 3 is refused", () -> refused("f", ARGUMENT, x -> x.bestSwap(3)));
    }

    private static void best(String why, String signs, int rank, int lower, int greater) {
        test("promise 27, bestSwap: " + why + ", " + signs, () -> {
            look(signs, rank, x -> x.bestSwap(0));
            look(signs, lower, x -> x.bestSwap(1));
            look(signs, greater, x -> x.bestSwap(2));
        });
    }

    private static void bestSwapRows() {
        best("two signs", "ab", 1, 0, 1);
        best("two signs, the last one", "ba", 0, 0, 1);
        best("two like signs", "dd", 0, 0, 1);
        best("the exchange that loses least", "cba", 4, 1, 2);
        best("the lower place is not 0", "cabab", 29, 1, 4);
        best("the last two places", "cbab", 11, 2, 3);
        best("the greater place in the middle", "bca", 5, 0, 1);
        best("like signs that could be exchanged, but better ones", "aabb", 4, 0, 3);
        best("none better than like signs, all alike", "bbb", 0, 0, 1);
        best("none better than like signs, the lowest lower place", "bbaa", 5, 0, 1);
        best("none better than like signs, the lowest greater place", "ccca", 3, 0, 1);
        best("none better than like signs, in the middle", "cbba", 11, 1, 2);
        best("none better than like signs, at the end", "cbaa", 11, 2, 3);
        best("11 like signs", ALIKE, 0, 0, 1);
        best("11 signs", LARGE, 1167660, 0, 5);
        best("11 signs, the first one", LARGE_FIRST, 1137281, 0, 10);
        best("11 signs, the last one", LARGE_LAST, 1247399, 1, 2);
        best("11 signs, just ahead of the last one", "feeddccbaba", 1247399, 8, 9);
        best("11 signs, the greater place is the last one", "fedcbaabcde", 1246320, 2, 10);
    }

    private static void shares(String why, String signs, int rank, int all) {
        test("promise 28, share: " + why, () ->
                look(signs, Double.doubleToLongBits((double) rank / all), x -> Double.doubleToLongBits(x.share())));
    }

    private static void share() {
        shares("the first one, 0", "abc", 0, 6);
        shares("the second one", "acb", 1, 6);
        shares("in the middle", "bca", 3, 6);
        shares("the last one", "cba", 5, 6);
        shares("one sign", "f", 0, 1);
        shares("all signs alike", ALIKE, 0, 1);
        shares("two signs, the last one", "ba", 1, 2);
        shares("11 signs", LARGE, 38580, 1247400);
        shares("11 signs, the first one", LARGE_FIRST, 0, 1247400);
        shares("11 signs, the last one", LARGE_LAST, 1247399, 1247400);
        test("promise 28, share: each rank of 30", () -> {
            SignRanks x = of("aabbc");
            for (int rank = 0; rank < 30; rank++) {
                x.goTo(rank);
                Check.same("share", x.share(), rank / 30.0);
            }
        });
    }

    private static void hash(String why, Supplier<SignRanks> maker, long due) {
        test("promise 29, digest: " + why, () -> looksOn(maker, due, x -> x.digest()));
    }

    private static SignRanks typed(String text) {
        SignRanks x = used("bca");
        x.clearBuffer();
        type(x, text);
        return x;
    }

    private static void digests() {
        hash("a new object", SignRanks::new, -7185876868350335832L);
        hash("one saved state", () -> of("bca"), 438553625885809046L);
        hash("six saved states, four gone to, three characters", () -> used("bca"), -6609955215873889706L);
        hash("one character", () -> typed("!"), 5905293672722859401L);
        hash("a full buffer", () -> typed("~".repeat(60)), 3269050648075403219L);
        hash("one sign", () -> of("f"), 3871732583679713039L);
        hash("no smooth one", () -> of("aaab"), -1542624041143581650L);
        hash("the last one", () -> of("cba"), -3706553364110472877L);
        hash("11 like signs", () -> of(ALIKE), 5197252347600920992L);
        hash("11 signs", () -> of(LARGE), 4986192361380102821L);
        hash("11 signs, used", () -> used(LARGE), 1052818524116794087L);
        hash("11 signs, the first one", () -> of(LARGE_FIRST), -3389824526200797918L);
        hash("11 signs, the last one", () -> of(LARGE_LAST), 3454364477522501974L);
        hash("11 signs, the last smooth one", () -> used("fededcbcaba"), -6848976368184869046L);
    }

    /** The document's list, asked by the other calls. */
    private static long listed(SignRanks x, String buffer) {
        long hash = 2579;
        for (int what = 0; what <= 13; what++) {
            hash = 31 * hash + x.count(what);
        }
        int n = x.count(0);
        int rank = x.count(3);
        int middle = x.count(2) / 2;
        for (int place = 0; place < n; place++) {
            hash = 31 * (31 * hash + x.sign(place)) + x.digit(place);
            for (int what = 0; what <= 2; what++) {
                hash = 31 * hash + x.block(place, what);
            }
            hash = 31 * (31 * hash + x.ifSwapped(place, 0)) + x.having(0, rank, place, 0);
        }
        for (int sign = 0; sign <= 5; sign++) {
            hash = 31 * hash + x.many(sign);
        }
        for (int place = 0; place < n; place++) {
            hash = 31 * hash + x.signOf(middle, place);
        }
        hash = 31 * hash + x.stepsTo(middle);
        for (int what = 0; what <= 2; what++) {
            hash = 31 * hash + x.bestSwap(what);
        }
        hash = 31 * (31 * hash + Double.doubleToLongBits(x.share())) + buffer.length();
        for (char code : buffer.toCharArray()) {
            hash = 31 * hash + code;
        }
        return hash;
    }

    private static void digestLists() {
        String[] rows = {"f", "dd", "ab", "ba", "aab", "aba", "baa", "abc", "cba", "aaab", "bbaa", "cabab", "fedcba",
            ALIKE, LARGE, LARGE_FIRST, LARGE_LAST, "fededcbcaba", "ababcdcdefe"};
        for (String signs : rows) {
            test("promise 29, digest: the list of " + signs, () -> {
                SignRanks x = of(signs);
                Check.same("digest", x.digest(), listed(x, ""));
                SignRanks y = used(signs);
                Check.same("digest", y.digest(), listed(y, TYPED));
            });
        }
        test("promise 29, digest: N / 2 is rounded down", () -> {
            SignRanks x = of("aab");
            Check.same("the sign of the rank 1", x.signOf(1, 1), 1);
            Check.same("digest", x.digest(), listed(x, ""));
        });
        test("promise 29, digest: each rank of 30", () -> {
            for (int rank = 0; rank < 30; rank++) {
                SignRanks x = of("aabbc");
                x.goTo(rank);
                Check.same("digest", x.digest(), listed(x, ""));
            }
        });
    }
}
