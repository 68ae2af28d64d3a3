/** Each boundary case that the document names of promises 1 to 10, from a new object to carry, has its test. */
public final class MovesEdgesTest extends Edges {
    private MovesEdgesTest() {
    }

    public static void main(String[] args) {
        newObject();
        goToRanks();
        goToRows();
        goToSaves();
        jumpRanks();
        jumpRows();
        jumpSaves();
        nextRows();
        nextSaves();
        previousRows();
        previousSaves();
        nextSmoothRows();
        nextSmoothRefused();
        nextSmoothSaves();
        goToSmoothRanks();
        goToSmoothRows();
        goToSmoothSaves();
        swapPlaces();
        swapRows();
        swapSaves();
        turnPlaces();
        turnOrder();
        turnRows();
        turnSaves();
        carryPlaces();
        carrySteps();
        carryRows();
        carrySaves();
        end("MovesEdgesTest", 1, 10);
    }

    private static void newObject() {
        test("promise 1, a new object: it is abc", () -> shows(new SignRanks(), "abc"));
        test("promise 1, a new object: it has 3 signs", () -> Check.same("n", new SignRanks().count(0), 3));
        test("promise 1, a new object: its rank is 0", () -> Check.same("rank", new SignRanks().count(3), 0));
        test("promise 1, a new object: the buffer is empty",
                () -> Check.same("clearBuffer", new SignRanks().clearBuffer(), 0));
        test("promise 1, a new object: the buffer has no error",
                () -> Check.same("firstError", new SignRanks().firstError(), 0));
        test("promise 1, a new object: no arrangement is gone to",
                () -> Check.same("count(12)", new SignRanks().count(12), 0));
        test("promise 1, a new object: no state is saved",
                () -> Check.same("count(13)", new SignRanks().count(13), 0));
        test("promise 1, a new object: undo is refused", () -> refusedOn(SignRanks::new, STATE, x -> x.undo()));
        test("promise 1, a new object: read is refused", () -> refusedOn(SignRanks::new, ARGUMENT, x -> x.read()));
        test("promise 1, a new object: another object's calls don't change it", () -> {
            SignRanks x = new SignRanks();
            SignRanks other = new SignRanks();
            other.goTo(5);
            other.append('a');
            other.put(0, 1);
            shows(x, "abc");
            Check.same("digest", x.digest(), new SignRanks().digest());
            Check.same("clearBuffer", x.clearBuffer(), 0);
        });
        test("promise 1, a new object: it is right to its 512th call", () -> {
            SignRanks x = new SignRanks();
            for (int call = 1; call <= 510; call++) {
                x.next();
            }
            Check.same("the 511th call, count(12)", x.count(12), 510);
            Check.same("the 512th call, count(3)", x.count(3), 0);
        });
    }

    private static void goToRanks() {
        test("promise 2, goTo: the lowest rank, 0", () -> leads("cba", x -> x.goTo(0), 5, "abc"));
        test("promise 2, goTo: the rank 1", () -> leads("cba", x -> x.goTo(1), 5, "acb"));
        test("promise 2, goTo: the greatest rank, N - 1", () -> leads("acb", x -> x.goTo(5), 1, "cba"));
        test("promise 2, goTo: the rank N is refused", () -> refused("bca", ARGUMENT, x -> x.goTo(6)));
        test("promise 2, goTo: the rank -1 is refused", () -> refused("bca", ARGUMENT, x -> x.goTo(-1)));
        test("promise 2, goTo: the least int is refused", () -> refused("bca", ARGUMENT, x -> x.goTo(LEAST)));
        test("promise 2, goTo: the greatest int is refused", () -> refused("bca", ARGUMENT, x -> x.goTo(MOST)));
        test("promise 2, goTo: it answers the previous rank, not the new one", () -> {
            SignRanks x = of("abc");
            Check.same("goTo(4)", x.goTo(4), 0);
            Check.same("goTo(2)", x.goTo(2), 4);
            Check.same("goTo(2) again", x.goTo(2), 2);
            shows(x, "bac");
        });
    }

    private static void goToRows() {
        test("promise 2, goTo: one sign, the rank 0", () -> leads("f", x -> x.goTo(0), 0, "f"));
        test("promise 2, goTo: one sign, the rank 1 is refused", () -> refused("f", ARGUMENT, x -> x.goTo(1)));
        test("promise 2, goTo: all signs alike, the rank 0", () -> leads(ALIKE, x -> x.goTo(0), 0, ALIKE));
        test("promise 2, goTo: all signs alike, the rank 1 is refused",
                () -> refused(ALIKE, ARGUMENT, x -> x.goTo(1)));
        test("promise 2, goTo: 11 signs, the first one", () -> leads(LARGE, x -> x.goTo(0), 38580, LARGE_FIRST));
        test("promise 2, goTo: 11 signs, the last one",
                () -> leads(LARGE, x -> x.goTo(1247399), 38580, LARGE_LAST));
        test("promise 2, goTo: 11 signs, the rank N is refused",
                () -> refused(LARGE, ARGUMENT, x -> x.goTo(1247400)));
        test("promise 2, goTo: like signs are no other arrangements", () -> {
            SignRanks x = of("aabb");
            String[] all = {"aabb", "abab", "abba", "baab", "baba", "bbaa"};
            for (int rank = 0; rank < all.length; rank++) {
                x.goTo(rank);
                shows(x, all[rank]);
            }
            refused("aabb", ARGUMENT, y -> y.goTo(6));
        });
    }

    private static void goToSaves() {
        test("promise 2, goTo: undoable", () -> undoable("bca", 1, x -> x.goTo(0)));
        test("promise 2, goTo: undoable, also if it changes nothing", () -> undoable("bca", 1, x -> x.goTo(3)));
        test("promise 2, goTo: undoable, with one sign", () -> undoable("c", 1, x -> x.goTo(0)));
        test("promise 2, goTo: a seventh state drops the oldest one", () -> dropsOldest("bca", x -> x.goTo(0)));
    }

    private static void jumpRanks() {
        test("promise 3, jump: just to the first rank", () -> leads("bca", x -> x.jump(-3), 0, "abc"));
        test("promise 3, jump: just to the last rank", () -> leads("bca", x -> x.jump(2), 5, "cba"));
        test("promise 3, jump: one ahead of the first rank is refused",
                () -> refused("bca", STATE, x -> x.jump(-4)));
        test("promise 3, jump: one behind the last rank is refused", () -> refused("bca", STATE, x -> x.jump(3)));
        test("promise 3, jump: by 0", () -> leads("bca", x -> x.jump(0), 3, "bca"));
        test("promise 3, jump: by 1", () -> leads("bca", x -> x.jump(1), 4, "cab"));
        test("promise 3, jump: by -1", () -> leads("bca", x -> x.jump(-1), 2, "bac"));
        test("promise 3, jump: by -1 from the first rank is refused",
                () -> refused("abc", STATE, x -> x.jump(-1)));
        test("promise 3, jump: by 1 from the last rank is refused", () -> refused("cba", STATE, x -> x.jump(1)));
        test("promise 3, jump: from the first rank to the last", () -> leads("abc", x -> x.jump(5), 5, "cba"));
        test("promise 3, jump: from the last rank to the first", () -> leads("cba", x -> x.jump(-5), 0, "abc"));
        test("promise 3, jump: by N from the first rank is refused",
                () -> refused("abc", STATE, x -> x.jump(6)));
        test("promise 3, jump: by -N from the last rank is refused",
                () -> refused("cba", STATE, x -> x.jump(-6)));
        test("promise 3, jump: by the greatest int from the first rank is refused",
                () -> refused("abc", STATE, x -> x.jump(MOST)));
        test("promise 3, jump: by the greatest int from the last rank is refused, it doesn't wrap around",
                () -> refused("cba", STATE, x -> x.jump(MOST)));
        test("promise 3, jump: by the least int from the first rank is refused",
                () -> refused("abc", STATE, x -> x.jump(LEAST)));
        test("promise 3, jump: by the least int from the last rank is refused",
                () -> refused("cba", STATE, x -> x.jump(LEAST)));
    }

    private static void jumpRows() {
        test("promise 3, jump: one sign, by 0", () -> leads("f", x -> x.jump(0), 0, "f"));
        test("promise 3, jump: one sign, by 1 is refused", () -> refused("f", STATE, x -> x.jump(1)));
        test("promise 3, jump: one sign, by -1 is refused", () -> refused("f", STATE, x -> x.jump(-1)));
        test("promise 3, jump: all signs alike, by 0", () -> leads(ALIKE, x -> x.jump(0), 0, ALIKE));
        test("promise 3, jump: all signs alike, by 1 is refused", () -> refused(ALIKE, STATE, x -> x.jump(1)));
        test("promise 3, jump: 11 signs, just to the last one",
                () -> leads(LARGE, x -> x.jump(1208819), 1247399, LARGE_LAST));
        test("promise 3, jump: 11 signs, just to the first one",
                () -> leads(LARGE, x -> x.jump(-38580), 0, LARGE_FIRST));
        test("promise 3, jump: 11 signs, one too far is refused",
                () -> refused(LARGE, STATE, x -> x.jump(1208820)));
        test("promise 3, jump: 11 signs, one too far back is refused",
                () -> refused(LARGE, STATE, x -> x.jump(-38581)));
        test("promise 3, jump: 11 signs, by the greatest int is refused",
                () -> refused(LARGE_LAST, STATE, x -> x.jump(MOST)));
        test("promise 3, jump: 11 signs, by the least int is refused",
                () -> refused(LARGE_LAST, STATE, x -> x.jump(LEAST)));
    }

    private static void jumpSaves() {
        test("promise 3, jump: undoable", () -> undoable("bca", 1, x -> x.jump(2)));
        test("promise 3, jump: undoable, back", () -> undoable("bca", 1, x -> x.jump(-3)));
        test("promise 3, jump: undoable, also by 0", () -> undoable("bca", 1, x -> x.jump(0)));
        test("promise 3, jump: a seventh state drops the oldest one", () -> dropsOldest("bca", x -> x.jump(0)));
    }

    private static void nextRows() {
        test("promise 4, next: two places have another sign", () -> leads("abc", x -> x.next(), 2, "acb"));
        test("promise 4, next: all places have another sign", () -> leads("acb", x -> x.next(), 3, "bac"));
        test("promise 4, next: three places of four", () -> leads("abca", x -> x.next(), 3, "acab"));
        test("promise 4, next: a place with a like sign isn't told", () -> leads("abcb", x -> x.next(), 2, "acbb"));
        test("promise 4, next: to the last one", () -> leads("cab", x -> x.next(), 2, "cba"));
        test("promise 4, next: behind the last one to the first one", () -> leads("cba", x -> x.next(), 2, "abc"));
        test("promise 4, next: behind the last one, with like signs",
                () -> leads("bbaa", x -> x.next(), 4, "aabb"));
        test("promise 4, next: one sign, no place", () -> leads("f", x -> x.next(), 0, "f"));
        test("promise 4, next: all signs alike, no place", () -> leads(ALIKE, x -> x.next(), 0, ALIKE));
        test("promise 4, next: two signs", () -> leads("ab", x -> x.next(), 2, "ba"));
        test("promise 4, next: two signs, behind the last one", () -> leads("ba", x -> x.next(), 2, "ab"));
        test("promise 4, next: 11 signs", () -> leads(LARGE, x -> x.next(), 2, "abcdefabced"));
        test("promise 4, next: 11 signs, behind the last one",
                () -> leads(LARGE_LAST, x -> x.next(), 10, LARGE_FIRST));
        test("promise 4, next: 11 signs, from the first one",
                () -> leads(LARGE_FIRST, x -> x.next(), 2, "aabbccddefe"));
    }

    private static void nextSaves() {
        test("promise 4, next: undoable", () -> undoable("bca", 1, x -> x.next()));
        test("promise 4, next: undoable behind the last one", () -> undoable("cba", 1, x -> x.next()));
        test("promise 4, next: undoable, also if it changes nothing", () -> undoable("f", 1, x -> x.next()));
        test("promise 4, next: a seventh state drops the oldest one", () -> dropsOldest("bca", x -> x.next()));
    }

    private static void previousRows() {
        test("promise 5, previous: to the first one, two places have another sign",
                () -> leads("acb", x -> x.previous(), 2, "abc"));
        test("promise 5, previous: all places of four", () -> leads("baab", x -> x.previous(), 4, "abba"));
        test("promise 5, previous: three places of four", () -> leads("acab", x -> x.previous(), 3, "abca"));
        test("promise 5, previous: a place with a like sign isn't told",
                () -> leads("acbb", x -> x.previous(), 2, "abcb"));
        test("promise 5, previous: ahead of the first one to the last one",
                () -> leads("abc", x -> x.previous(), 2, "cba"));
        test("promise 5, previous: ahead of the first one, with like signs",
                () -> leads("aabb", x -> x.previous(), 4, "bbaa"));
        test("promise 5, previous: one sign, no place", () -> leads("f", x -> x.previous(), 0, "f"));
        test("promise 5, previous: all signs alike, no place", () -> leads(ALIKE, x -> x.previous(), 0, ALIKE));
        test("promise 5, previous: two signs", () -> leads("ba", x -> x.previous(), 2, "ab"));
        test("promise 5, previous: two signs, ahead of the first one", () -> leads("ab", x -> x.previous(), 2, "ba"));
        test("promise 5, previous: 11 signs", () -> leads(LARGE, x -> x.previous(), 5, "abcdeefdcba"));
        test("promise 5, previous: 11 signs, ahead of the first one",
                () -> leads(LARGE_FIRST, x -> x.previous(), 10, LARGE_LAST));
        test("promise 5, previous: 11 signs, from the last one",
                () -> leads(LARGE_LAST, x -> x.previous(), 2, "feeddccbaba"));
    }

    private static void previousSaves() {
        test("promise 5, previous: undoable", () -> undoable("bca", 1, x -> x.previous()));
        test("promise 5, previous: undoable ahead of the first one", () -> undoable("abc", 1, x -> x.previous()));
        test("promise 5, previous: undoable, also if it changes nothing", () -> undoable("f", 1, x -> x.previous()));
        test("promise 5, previous: a seventh state drops the oldest one",
                () -> dropsOldest("bca", x -> x.previous()));
    }

    private static void nextSmoothRows() {
        test("promise 6, nextSmooth: from a smooth one to the next, not to itself",
                () -> leads("ababc", x -> x.nextSmooth(), 4, "abacb"));
        test("promise 6, nextSmooth: from one that is not smooth",
                () -> leads("bbaac", x -> x.nextSmooth(), 22, "bcaba"));
        test("promise 6, nextSmooth: from the first one to the first smooth one",
                () -> leads("aabbc", x -> x.nextSmooth(), 3, "ababc"));
        test("promise 6, nextSmooth: from just ahead of a smooth one",
                () -> leads("aacbb", x -> x.nextSmooth(), 3, "ababc"));
        test("promise 6, nextSmooth: to the last smooth one",
                () -> leads("cabab", x -> x.nextSmooth(), 28, "cbaba"));
        test("promise 6, nextSmooth: it answers the rank, not the smooth rank",
                () -> leads("aab", x -> x.nextSmooth(), 1, "aba"));
        test("promise 6, nextSmooth: all are smooth", () -> leads("abc", x -> x.nextSmooth(), 1, "acb"));
        test("promise 6, nextSmooth: 11 signs, to the first smooth one",
                () -> leads(LARGE_FIRST, x -> x.nextSmooth(), 22711, "ababcdcdefe"));
        test("promise 6, nextSmooth: 11 signs, from a smooth one",
                () -> leads(LARGE, x -> x.nextSmooth(), 38581, "abcdefabced"));
    }

    private static void nextSmoothRefused() {
        test("promise 6, nextSmooth: at the last smooth one it is refused, it doesn't wrap around",
                () -> refused("cbaba", STATE, x -> x.nextSmooth()));
        test("promise 6, nextSmooth: behind the last smooth one it is refused",
                () -> refused("cbbaa", STATE, x -> x.nextSmooth()));
        test("promise 6, nextSmooth: at the only smooth one it is refused",
                () -> refused("aba", STATE, x -> x.nextSmooth()));
        test("promise 6, nextSmooth: behind the only smooth one it is refused",
                () -> refused("baa", STATE, x -> x.nextSmooth()));
        test("promise 6, nextSmooth: at the last one, if all are smooth, it is refused",
                () -> refused("cba", STATE, x -> x.nextSmooth()));
        test("promise 6, nextSmooth: without a smooth one it is refused",
                () -> refused("aaab", STATE, x -> x.nextSmooth()));
        test("promise 6, nextSmooth: one sign, it is refused", () -> refused("f", STATE, x -> x.nextSmooth()));
        test("promise 6, nextSmooth: two like signs, it is refused",
                () -> refused("dd", STATE, x -> x.nextSmooth()));
        test("promise 6, nextSmooth: 11 like signs, it is refused",
                () -> refused(ALIKE, STATE, x -> x.nextSmooth()));
        test("promise 6, nextSmooth: 11 signs, at the last smooth one it is refused",
                () -> refused("fededcbcaba", STATE, x -> x.nextSmooth()));
        test("promise 6, nextSmooth: 11 signs, at the last one it is refused",
                () -> refused(LARGE_LAST, STATE, x -> x.nextSmooth()));
    }

    private static void nextSmoothSaves() {
        test("promise 6, nextSmooth: undoable", () -> undoable("aabbc", 1, x -> x.nextSmooth()));
        test("promise 6, nextSmooth: a seventh state drops the oldest one",
                () -> dropsOldest("aabbc", x -> x.nextSmooth()));
    }

    private static void goToSmoothRanks() {
        test("promise 7, goToSmooth: the lowest smooth rank, 0",
                () -> leads("cabab", x -> x.goToSmooth(0), 3, "ababc"));
        test("promise 7, goToSmooth: the smooth rank 1", () -> leads("cabab", x -> x.goToSmooth(1), 4, "abacb"));
        test("promise 7, goToSmooth: the greatest smooth rank, M - 1",
                () -> leads("cabab", x -> x.goToSmooth(11), 28, "cbaba"));
        test("promise 7, goToSmooth: the smooth rank M is refused",
                () -> refused("cabab", ARGUMENT, x -> x.goToSmooth(12)));
        test("promise 7, goToSmooth: a rank of all, but no smooth rank, is refused",
                () -> refused("cabab", ARGUMENT, x -> x.goToSmooth(29)));
        test("promise 7, goToSmooth: the smooth rank -1 is refused",
                () -> refused("cabab", ARGUMENT, x -> x.goToSmooth(-1)));
        test("promise 7, goToSmooth: the least int is refused",
                () -> refused("cabab", ARGUMENT, x -> x.goToSmooth(LEAST)));
        test("promise 7, goToSmooth: the greatest int is refused",
                () -> refused("cabab", ARGUMENT, x -> x.goToSmooth(MOST)));
        test("promise 7, goToSmooth: to itself", () -> leads("cabab", x -> x.goToSmooth(10), 25, "cabab"));
        test("promise 7, goToSmooth: each of them in its order", () -> {
            int[] ranks = {3, 4, 7, 8, 10, 14, 15, 16, 17, 22, 25, 28};
            for (int smooth = 0; smooth < ranks.length; smooth++) {
                int rank = smooth;
                leads("aabbc", x -> x.goToSmooth(rank), ranks[rank], smoothOne(rank));
            }
        });
    }

    private static String smoothOne(int rank) {
        String all = "ababc abacb abcab abcba acbab babac babca bacab bacba bcaba cabab cbaba";
        return all.split(" ")[rank];
    }

    private static void goToSmoothRows() {
        test("promise 7, goToSmooth: from one that is not smooth",
                () -> leads("cbbaa", x -> x.goToSmooth(4), 10, "acbab"));
        test("promise 7, goToSmooth: the only smooth one", () -> leads("baa", x -> x.goToSmooth(0), 1, "aba"));
        test("promise 7, goToSmooth: behind the only smooth one it is refused",
                () -> refused("baa", ARGUMENT, x -> x.goToSmooth(1)));
        test("promise 7, goToSmooth: without a smooth one the smooth rank 0 is refused",
                () -> refused("aaab", ARGUMENT, x -> x.goToSmooth(0)));
        test("promise 7, goToSmooth: without a smooth one the smooth rank -1 is refused",
                () -> refused("aaab", ARGUMENT, x -> x.goToSmooth(-1)));
        test("promise 7, goToSmooth: one sign, the smooth rank 0", () -> leads("f", x -> x.goToSmooth(0), 0, "f"));
        test("promise 7, goToSmooth: one sign, the smooth rank 1 is refused",
                () -> refused("f", ARGUMENT, x -> x.goToSmooth(1)));
        test("promise 7, goToSmooth: 11 like signs, the smooth rank 0 is refused",
                () -> refused(ALIKE, ARGUMENT, x -> x.goToSmooth(0)));
        test("promise 7, goToSmooth: 11 signs, the smooth rank 0",
                () -> leads(LARGE, x -> x.goToSmooth(0), 22711, "ababcdcdefe"));
        test("promise 7, goToSmooth: 11 signs, the smooth rank M - 1",
                () -> leads(LARGE, x -> x.goToSmooth(478079), 1244872, "fededcbcaba"));
        test("promise 7, goToSmooth: 11 signs, the smooth rank M is refused",
                () -> refused(LARGE, ARGUMENT, x -> x.goToSmooth(478080)));
    }

    private static void goToSmoothSaves() {
        test("promise 7, goToSmooth: undoable", () -> undoable("cbbaa", 1, x -> x.goToSmooth(4)));
        test("promise 7, goToSmooth: undoable, also if it changes nothing",
                () -> undoable("cabab", 1, x -> x.goToSmooth(10)));
        test("promise 7, goToSmooth: a seventh state drops the oldest one",
                () -> dropsOldest("cabab", x -> x.goToSmooth(0)));
    }

    private static void swapPlaces() {
        test("promise 8, swap: the place 0 and the last one", () -> leads("abcde", x -> x.swap(0, 4), 105, "ebcda"));
        test("promise 8, swap: the last place and the place 0", () -> leads("abcde", x -> x.swap(4, 0), 105, "ebcda"));
        test("promise 8, swap: the greater place first", () -> leads("abcde", x -> x.swap(3, 1), 14, "adcbe"));
        test("promise 8, swap: a place with itself", () -> leads("bca", x -> x.swap(1, 1), 3, "bca"));
        test("promise 8, swap: the place 0 with itself", () -> leads("bca", x -> x.swap(0, 0), 3, "bca"));
        test("promise 8, swap: the last place with itself", () -> leads("bca", x -> x.swap(2, 2), 3, "bca"));
        test("promise 8, swap: the place -1 is refused", () -> refused("bca", OUTSIDE, x -> x.swap(-1, 0)));
        test("promise 8, swap: the place n is refused", () -> refused("bca", OUTSIDE, x -> x.swap(3, 0)));
        test("promise 8, swap: the place of the least int is refused",
                () -> refused("bca", OUTSIDE, x -> x.swap(LEAST, 0)));
        test("promise 8, swap: the place of the greatest int is refused",
                () -> refused("bca", OUTSIDE, x -> x.swap(MOST, 0)));
        test("promise 8, swap: the other place -1 is refused", () -> refused("bca", OUTSIDE, x -> x.swap(0, -1)));
        test("promise 8, swap: the other place n is refused", () -> refused("bca", OUTSIDE, x -> x.swap(0, 3)));
        test("promise 8, swap: the other place of the least int is refused",
                () -> refused("bca", OUTSIDE, x -> x.swap(0, LEAST)));
        test("promise 8, swap: the other place of the greatest int is refused",
                () -> refused("bca", OUTSIDE, x -> x.swap(0, MOST)));
        test("promise 8, swap: a place that isn't there with itself is refused", () -> {
            refused("bca", OUTSIDE, x -> x.swap(3, 3));
            refused("bca", OUTSIDE, x -> x.swap(-1, -1));
        });
        test("promise 8, swap: both places wrong is refused", () -> refused("bca", OUTSIDE, x -> x.swap(LEAST, MOST)));
    }

    private static void swapRows() {
        test("promise 8, swap: like signs", () -> leads("abab", x -> x.swap(0, 2), 1, "abab"));
        test("promise 8, swap: one sign with itself", () -> leads("f", x -> x.swap(0, 0), 0, "f"));
        test("promise 8, swap: one sign, the place 1 is refused", () -> refused("f", OUTSIDE, x -> x.swap(1, 0)));
        test("promise 8, swap: one sign, the other place 1 is refused",
                () -> refused("f", OUTSIDE, x -> x.swap(0, 1)));
        test("promise 8, swap: 11 like signs", () -> leads(ALIKE, x -> x.swap(0, 10), 0, ALIKE));
        test("promise 8, swap: 11 signs, the place 0 and the place 10",
                () -> leads(LARGE, x -> x.swap(0, 10), 974829, "ebcdefabcda"));
        test("promise 8, swap: 11 signs, the place 10 and another one",
                () -> leads(LARGE, x -> x.swap(10, 5), 38460, "abcdeeabcdf"));
        test("promise 8, swap: 11 signs, the place 11 is refused",
                () -> refused(LARGE, OUTSIDE, x -> x.swap(11, 0)));
        test("promise 8, swap: 11 signs, the other place 11 is refused",
                () -> refused(LARGE, OUTSIDE, x -> x.swap(0, 11)));
    }

    private static void swapSaves() {
        test("promise 8, swap: undoable, and no arrangement gone to", () -> undoable("bca", 0, x -> x.swap(0, 2)));
        test("promise 8, swap: undoable, also with itself", () -> undoable("bca", 0, x -> x.swap(1, 1)));
        test("promise 8, swap: undoable, also of like signs", () -> undoable("abab", 0, x -> x.swap(0, 2)));
        test("promise 8, swap: a seventh state drops the oldest one", () -> dropsOldest("bca", x -> x.swap(0, 2)));
    }

    private static void turnPlaces() {
        test("promise 9, turn: all of them", () -> leads("abcde", x -> x.turn(0, 4), 119, "edcba"));
        test("promise 9, turn: an even number of them", () -> leads("abcde", x -> x.turn(0, 3), 86, "dcbae"));
        test("promise 9, turn: those in the middle", () -> leads("abcde", x -> x.turn(1, 3), 14, "adcbe"));
        test("promise 9, turn: the last two", () -> leads("abcde", x -> x.turn(3, 4), 1, "abced"));
        test("promise 9, turn: one at the place 0", () -> leads("bcdea", x -> x.turn(0, 0), 33, "bcdea"));
        test("promise 9, turn: one at the last place", () -> leads("bcdea", x -> x.turn(4, 4), 33, "bcdea"));
        test("promise 9, turn: from -1 is refused", () -> refused("bca", OUTSIDE, x -> x.turn(-1, 2)));
        test("promise 9, turn: from n is refused", () -> refused("bca", OUTSIDE, x -> x.turn(3, 3)));
        test("promise 9, turn: from the least int is refused", () -> refused("bca", OUTSIDE, x -> x.turn(LEAST, 2)));
        test("promise 9, turn: from the greatest int is refused",
                () -> refused("bca", OUTSIDE, x -> x.turn(MOST, MOST)));
        test("promise 9, turn: to n is refused", () -> refused("bca", OUTSIDE, x -> x.turn(0, 3)));
        test("promise 9, turn: to the greatest int is refused", () -> refused("bca", OUTSIDE, x -> x.turn(0, MOST)));
        test("promise 9, turn: from and to -1 is refused", () -> refused("bca", OUTSIDE, x -> x.turn(-1, -1)));
    }

    private static void turnOrder() {
        test("promise 9, turn: to one less than from is refused", () -> refused("bca", ARGUMENT, x -> x.turn(1, 0)));
        test("promise 9, turn: to one less than from, at the end, is refused",
                () -> refused("bca", ARGUMENT, x -> x.turn(2, 1)));
        test("promise 9, turn: from the last place to the place 0 is refused",
                () -> refused("bca", ARGUMENT, x -> x.turn(2, 0)));
        test("promise 9, turn: to -1, less than from too: no such place comes first",
                () -> refused("bca", OUTSIDE, x -> x.turn(0, -1)));
        test("promise 9, turn: to the least int, less than from too: no such place comes first",
                () -> refused("bca", OUTSIDE, x -> x.turn(2, LEAST)));
        test("promise 9, turn: from n, greater than to too: no such place comes first",
                () -> refused("bca", OUTSIDE, x -> x.turn(3, 2)));
        test("promise 9, turn: from the greatest int, greater than to too: no such place comes first",
                () -> refused("bca", OUTSIDE, x -> x.turn(MOST, 0)));
        test("promise 9, turn: both wrong, and to less than from: no such place comes first",
                () -> refused("bca", OUTSIDE, x -> x.turn(MOST, LEAST)));
    }

    private static void turnRows() {
        test("promise 9, turn: one sign", () -> leads("f", x -> x.turn(0, 0), 0, "f"));
        test("promise 9, turn: one sign, to 1 is refused", () -> refused("f", OUTSIDE, x -> x.turn(0, 1)));
        test("promise 9, turn: one sign, from 1 to 0 is refused as no such place",
                () -> refused("f", OUTSIDE, x -> x.turn(1, 0)));
        test("promise 9, turn: 11 like signs", () -> leads(ALIKE, x -> x.turn(0, 10), 0, ALIKE));
        test("promise 9, turn: 11 signs, all of them",
                () -> leads(LARGE, x -> x.turn(0, 10), 1066679, "edcbafedcba"));
        test("promise 9, turn: 11 signs, all but the outer ones",
                () -> leads(LARGE, x -> x.turn(1, 9), 130130, "adcbafedcbe"));
        test("promise 9, turn: 11 signs, the last one alone", () -> leads(LARGE, x -> x.turn(10, 10), 38580, LARGE));
        test("promise 9, turn: 11 signs, to 11 is refused", () -> refused(LARGE, OUTSIDE, x -> x.turn(0, 11)));
        test("promise 9, turn: 11 signs, from 10 to 9 is refused",
                () -> refused(LARGE, ARGUMENT, x -> x.turn(10, 9)));
    }

    private static void turnSaves() {
        test("promise 9, turn: undoable, and no arrangement gone to", () -> undoable("bca", 0, x -> x.turn(0, 2)));
        test("promise 9, turn: undoable, also of one place", () -> undoable("bca", 0, x -> x.turn(1, 1)));
        test("promise 9, turn: a seventh state drops the oldest one", () -> dropsOldest("bca", x -> x.turn(0, 1)));
    }

    private static void carryPlaces() {
        test("promise 10, carry: from the place 0 to the last one", () -> leads("abcde", x -> x.carry(0, 4), 4, "bcdea"));
        test("promise 10, carry: from the place 0 by 1", () -> leads("abcde", x -> x.carry(0, 1), 1, "bacde"));
        test("promise 10, carry: from the last place by 1, around the end",
                () -> leads("abcde", x -> x.carry(4, 1), 0, "eabcd"));
        test("promise 10, carry: around the end all signs move, and it goes on from the place 0",
                () -> leads("abcde", x -> x.carry(3, 3), 1, "adbce"));
        test("promise 10, carry: just around the end", () -> leads("abcde", x -> x.carry(3, 2), 0, "dabce"));
        test("promise 10, carry: once around", () -> leads("abcde", x -> x.carry(0, 5), 0, "abcde"));
        test("promise 10, carry: the place -1 is refused", () -> refused("bca", OUTSIDE, x -> x.carry(-1, 1)));
        test("promise 10, carry: the place n is refused", () -> refused("bca", OUTSIDE, x -> x.carry(3, 1)));
        test("promise 10, carry: the place of the least int is refused",
                () -> refused("bca", OUTSIDE, x -> x.carry(LEAST, 1)));
        test("promise 10, carry: the place of the greatest int is refused",
                () -> refused("bca", OUTSIDE, x -> x.carry(MOST, 1)));
        test("promise 10, carry: no such place by 0 steps is refused", () -> {
            refused("bca", OUTSIDE, x -> x.carry(3, 0));
            refused("bca", OUTSIDE, x -> x.carry(-1, 0));
        });
    }

    private static void carrySteps() {
        test("promise 10, carry: 0 steps", () -> leads("bcdea", x -> x.carry(2, 0), 2, "bcdea"));
        test("promise 10, carry: 0 steps at the last place", () -> leads("bcdea", x -> x.carry(4, 0), 4, "bcdea"));
        test("promise 10, carry: 20 steps, six times around", () -> leads("abc", x -> x.carry(0, 20), 2, "bca"));
        test("promise 10, carry: 20 steps of two signs, from the last place",
                () -> leads("ab", x -> x.carry(1, 20), 1, "ab"));
        test("promise 10, carry: 19 steps of two signs, from the last place",
                () -> leads("ab", x -> x.carry(1, 19), 0, "ba"));
        test("promise 10, carry: -1 steps is refused", () -> refused("bca", ARGUMENT, x -> x.carry(1, -1)));
        test("promise 10, carry: 21 steps is refused", () -> refused("bca", ARGUMENT, x -> x.carry(1, 21)));
        test("promise 10, carry: the least int of steps is refused",
                () -> refused("bca", ARGUMENT, x -> x.carry(1, LEAST)));
        test("promise 10, carry: the greatest int of steps is refused",
                () -> refused("bca", ARGUMENT, x -> x.carry(1, MOST)));
        test("promise 10, carry: both wrong, 21 steps: no such place comes first",
                () -> refused("bca", OUTSIDE, x -> x.carry(3, 21)));
        test("promise 10, carry: both wrong, -1 steps: no such place comes first",
                () -> refused("bca", OUTSIDE, x -> x.carry(-1, -1)));
    }

    private static void carryRows() {
        test("promise 10, carry: one sign by 0", () -> leads("f", x -> x.carry(0, 0), 0, "f"));
        test("promise 10, carry: one sign by 1, around the end", () -> leads("f", x -> x.carry(0, 1), 0, "f"));
        test("promise 10, carry: one sign by 20", () -> leads("f", x -> x.carry(0, 20), 0, "f"));
        test("promise 10, carry: one sign, the place 1 is refused", () -> refused("f", OUTSIDE, x -> x.carry(1, 1)));
        test("promise 10, carry: one sign by 21 is refused", () -> refused("f", ARGUMENT, x -> x.carry(0, 21)));
        test("promise 10, carry: 11 like signs by 20", () -> leads(ALIKE, x -> x.carry(0, 20), 9, ALIKE));
        test("promise 10, carry: 11 signs by 20 from the place 0",
                () -> leads(LARGE, x -> x.carry(0, 20), 9, "bcdefabcdae"));
        test("promise 10, carry: 11 signs by 20 from the place 10",
                () -> leads(LARGE, x -> x.carry(10, 20), 8, "abcdefabecd"));
        test("promise 10, carry: 11 signs by 20 from the middle",
                () -> leads(LARGE, x -> x.carry(5, 20), 3, "abcfdeabcde"));
        test("promise 10, carry: 11 signs by 1 from the place 10",
                () -> leads(LARGE, x -> x.carry(10, 1), 0, "eabcdefabcd"));
        test("promise 10, carry: 11 signs, the place 11 is refused",
                () -> refused(LARGE, OUTSIDE, x -> x.carry(11, 1)));
    }

    private static void carrySaves() {
        test("promise 10, carry: undoable, and no arrangement gone to", () -> undoable("bca", 0, x -> x.carry(0, 1)));
        test("promise 10, carry: undoable around the end, one state for 20 steps",
                () -> undoable("bca", 0, x -> x.carry(0, 20)));
        test("promise 10, carry: undoable, also by 0 steps", () -> undoable("bca", 0, x -> x.carry(0, 0)));
        test("promise 10, carry: a seventh state drops the oldest one", () -> dropsOldest("bca", x -> x.carry(0, 1)));
    }
}
