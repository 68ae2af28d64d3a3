/** Each promise of ../shared/DOC.md by itself: ordinary calls, the edges that it names, and wrong calls. */
public final class PromisesTest {
    private static final int LEAST = Integer.MIN_VALUE;
    private static final int MOST = Integer.MAX_VALUE;

    private PromisesTest() {
    }

    public static void main(String[] args) {
        newObject();
        goTo();
        jump();
        next();
        previous();
        nextSmooth();
        goToSmooth();
        swap();
        turn();
        carry();
        put();
        take();
        append();
        clearBuffer();
        firstError();
        read();
        undo();
        undoOfEachMethod();
        signs();
        digit();
        many();
        block();
        count();
        secondWay();
        ifSwapped();
        signOf();
        having();
        stepsTo();
        bestSwap();
        share();
        digest();
        Check.end("PromisesTest");
    }

    /** An object with an arrangement, and what stands in its buffer. */
    private static SignRanks of(String text) {
        SignRanks x = new SignRanks();
        type(x, text);
        x.read();
        return x;
    }

    private static void type(SignRanks x, String text) {
        for (char code : text.toCharArray()) {
            x.append(code);
        }
    }

    private static String row(SignRanks x) {
        StringBuilder signs = new StringBuilder();
        for (int place = 0; place < x.count(0); place++) {
            signs.append((char) ('a' + x.sign(place)));
        }
        return signs.toString();
    }

    private static void shows(SignRanks x, String due) {
        Check.holds("the arrangement is " + row(x) + ", due is " + due, row(x).equals(due));
    }

    private static void newObject() {
        SignRanks x = new SignRanks();
        shows(x, "abc");
        Check.same("n", x.count(0), 3);
        Check.same("the rank", x.count(3), 0);
        Check.same("gone to", x.count(12), 0);
        Check.same("saved", x.count(13), 0);
        Check.same("firstError", x.firstError(), 0);
        Check.same("clearBuffer", x.clearBuffer(), 0);
        Check.badState(x, "undo()", x::undo);
        Check.badArgument(x, "read()", x::read);
        Check.same("NONE", SignRanks.NONE, -1);
    }

    private static void goTo() {
        SignRanks x = new SignRanks();
        Check.same("goTo(4)", x.goTo(4), 0);
        shows(x, "cab");
        Check.same("goTo(5)", x.goTo(5), 4);
        shows(x, "cba");
        Check.same("goTo(5) again", x.goTo(5), 5);
        Check.same("saved", x.count(13), 3);
        Check.same("gone to", x.count(12), 3);
        Check.same("undo()", x.undo(), 2);
        Check.same("undo()", x.undo(), 1);
        shows(x, "cab");
        for (int rank : new int[] {-1, 6, LEAST, MOST}) {
            Check.badArgument(x, "goTo(" + rank + ")", () -> x.goTo(rank));
        }
        SignRanks large = of("abcdefabcde");
        Check.same("goTo(1247399)", large.goTo(1247399), 38580);
        shows(large, "feeddccbbaa");
        Check.badArgument(large, "goTo(1247400)", () -> large.goTo(1247400));
        SignRanks one = of("f9f2");
        Check.same("goTo(0)", one.goTo(0), 0);
        Check.badArgument(one, "goTo(1)", () -> one.goTo(1));
    }

    private static void jump() {
        SignRanks x = new SignRanks();
        Check.same("jump(5)", x.jump(5), 5);
        shows(x, "cba");
        Check.badState(x, "jump(1)", () -> x.jump(1));
        Check.badState(x, "jump(MOST)", () -> x.jump(MOST));
        Check.badState(x, "jump(LEAST)", () -> x.jump(LEAST));
        Check.same("jump(-2)", x.jump(-2), 3);
        shows(x, "bca");
        Check.badState(x, "jump(-4)", () -> x.jump(-4));
        Check.badState(x, "jump(3)", () -> x.jump(3));
        Check.badState(x, "jump(MOST)", () -> x.jump(MOST));
        Check.same("jump(0)", x.jump(0), 3);
        Check.same("gone to", x.count(12), 3);
        Check.same("undo()", x.undo(), 2);
        Check.same("undo()", x.undo(), 1);
        shows(x, "cba");
    }

    private static void next() {
        SignRanks x = of("aabb");
        Check.same("next()", x.next(), 2);
        shows(x, "abab");
        Check.same("next()", x.next(), 2);
        shows(x, "abba");
        Check.same("next()", x.next(), 4);
        shows(x, "baab");
        x.goTo(5);
        Check.same("next() behind the last one", x.next(), 4);
        shows(x, "aabb");
        Check.same("gone to", x.count(12), 5);
        x.undo();
        shows(x, "bbaa");
        SignRanks alike = of("a3");
        Check.same("next() of the only one", alike.next(), 0);
        Check.same("gone to", alike.count(12), 1);
        Check.same("saved", alike.count(13), 2);
    }

    private static void previous() {
        SignRanks x = of("abca");
        Check.same("previous()", x.previous(), 2);
        shows(x, "abac");
        x.goTo(0);
        Check.same("previous() ahead of the first one", x.previous(), 4);
        shows(x, "cbaa");
        Check.same("gone to", x.count(12), 3);
        x.undo();
        shows(x, "aabc");
        x.goTo(1);
        Check.same("previous() of the second one", x.previous(), 2);
        shows(x, "aabc");
        SignRanks alike = of("e");
        Check.same("previous() of the only one", alike.previous(), 0);
        Check.same("gone to", alike.count(12), 1);
        Check.same("saved", alike.count(13), 2);
    }

    private static void nextSmooth() {
        SignRanks x = of("a2b2");
        Check.same("nextSmooth()", x.nextSmooth(), 1);
        shows(x, "abab");
        Check.same("nextSmooth()", x.nextSmooth(), 4);
        shows(x, "baba");
        Check.badState(x, "nextSmooth()", x::nextSmooth);
        Check.same("gone to", x.count(12), 2);
        x.undo();
        shows(x, "abab");
        x.goTo(2);
        Check.same("nextSmooth() from one that is not smooth", x.nextSmooth(), 4);
        x.goTo(5);
        Check.badState(x, "nextSmooth() at the last one", x::nextSmooth);
        SignRanks none = of("a3b");
        Check.badState(none, "nextSmooth() without smooth ones", none::nextSmooth);
        SignRanks one = of("d");
        Check.badState(one, "nextSmooth() of the only one", one::nextSmooth);
    }

    private static void goToSmooth() {
        SignRanks x = of("a2b2c");
        Check.same("goToSmooth(0)", x.goToSmooth(0), 3);
        shows(x, "ababc");
        Check.same("goToSmooth(11)", x.goToSmooth(11), 28);
        shows(x, "cbaba");
        Check.same("gone to", x.count(12), 2);
        Check.badArgument(x, "goToSmooth(12)", () -> x.goToSmooth(12));
        Check.badArgument(x, "goToSmooth(-1)", () -> x.goToSmooth(-1));
        Check.badArgument(x, "goToSmooth(LEAST)", () -> x.goToSmooth(LEAST));
        Check.badArgument(x, "goToSmooth(MOST)", () -> x.goToSmooth(MOST));
        x.undo();
        shows(x, "ababc");
        SignRanks none = of("a9b");
        Check.badArgument(none, "goToSmooth(0) without smooth ones", () -> none.goToSmooth(0));
        SignRanks one = of("d");
        Check.same("goToSmooth(0) of the only one", one.goToSmooth(0), 0);
        SignRanks large = of("abcdefabcde");
        large.goToSmooth(478079);
        Check.same("the smooth rank", large.count(5), 478079);
        Check.badState(large, "nextSmooth()", large::nextSmooth);
        Check.badArgument(large, "goToSmooth(478080)", () -> large.goToSmooth(478080));
    }

    private static void swap() {
        SignRanks x = new SignRanks();
        Check.same("swap(0, 2)", x.swap(0, 2), 5);
        shows(x, "cba");
        Check.same("swap(2, 1)", x.swap(2, 1), 4);
        shows(x, "cab");
        Check.same("swap(1, 1)", x.swap(1, 1), 4);
        Check.same("saved", x.count(13), 3);
        Check.same("gone to", x.count(12), 0);
        x.undo();
        x.undo();
        shows(x, "cba");
        for (int place : new int[] {-1, 3, LEAST, MOST}) {
            Check.outside(x, "swap(" + place + ", 0)", () -> x.swap(place, 0));
            Check.outside(x, "swap(0, " + place + ")", () -> x.swap(0, place));
        }
    }

    private static void turn() {
        SignRanks x = of("abcde");
        Check.same("turn(1, 4)", x.turn(1, 4), 23);
        shows(x, "aedcb");
        Check.same("turn(0, 2)", x.turn(0, 2), 91);
        shows(x, "deacb");
        Check.same("turn(2, 2)", x.turn(2, 2), 91);
        Check.same("saved", x.count(13), 4);
        Check.same("gone to", x.count(12), 0);
        x.undo();
        x.undo();
        shows(x, "aedcb");
        Check.badArgument(x, "turn(2, 1)", () -> x.turn(2, 1));
        Check.badArgument(x, "turn(4, 0)", () -> x.turn(4, 0));
        Check.outside(x, "turn(0, 5)", () -> x.turn(0, 5));
        Check.outside(x, "turn(-1, 0)", () -> x.turn(-1, 0));
        Check.outside(x, "turn(5, 1)", () -> x.turn(5, 1));
        Check.outside(x, "turn(3, -1)", () -> x.turn(3, -1));
        Check.outside(x, "turn(MOST, LEAST)", () -> x.turn(MOST, LEAST));
    }

    private static void carry() {
        SignRanks x = of("abcde");
        Check.same("carry(1, 2)", x.carry(1, 2), 3);
        shows(x, "acdbe");
        Check.same("carry(4, 1)", x.carry(4, 1), 0);
        shows(x, "eacdb");
        Check.same("carry(3, 3)", x.carry(3, 3), 1);
        shows(x, "edacb");
        Check.same("carry(2, 0)", x.carry(2, 0), 2);
        Check.same("carry(0, 20)", x.carry(0, 20), 0);
        Check.same("gone to", x.count(12), 0);
        Check.same("saved", x.count(13), 6);
        x.undo();
        x.undo();
        x.undo();
        shows(x, "eacdb");
        SignRanks one = of("c");
        Check.same("carry(0, 20)", one.carry(0, 20), 0);
        shows(one, "c");
        Check.badArgument(x, "carry(0, 21)", () -> x.carry(0, 21));
        Check.badArgument(x, "carry(0, -1)", () -> x.carry(0, -1));
        Check.outside(x, "carry(5, 1)", () -> x.carry(5, 1));
        Check.outside(x, "carry(-1, 1)", () -> x.carry(-1, 1));
        Check.outside(x, "carry(5, 21)", () -> x.carry(5, 21));
    }

    private static void put() {
        SignRanks x = new SignRanks();
        Check.same("put(0, 5)", x.put(0, 5), 24);
        shows(x, "fabc");
        Check.same("put(4, 0)", x.put(4, 0), 60);
        shows(x, "fabca");
        Check.same("put(2, 1)", x.put(2, 1), 180);
        shows(x, "fabbca");
        Check.same("gone to", x.count(12), 0);
        Check.same("saved", x.count(13), 3);
        x.undo();
        shows(x, "fabca");
        Check.outside(x, "put(6, 0)", () -> x.put(6, 0));
        Check.outside(x, "put(-1, 0)", () -> x.put(-1, 0));
        Check.outside(x, "put(6, 6)", () -> x.put(6, 6));
        Check.badArgument(x, "put(0, 6)", () -> x.put(0, 6));
        Check.badArgument(x, "put(0, -1)", () -> x.put(0, -1));
        SignRanks full = of("a9b2");
        Check.badState(full, "put(0, 0)", () -> full.put(0, 0));
        Check.badState(full, "put(11, 5)", () -> full.put(11, 5));
        Check.badArgument(full, "put(11, 6)", () -> full.put(11, 6));
        Check.outside(full, "put(12, 6)", () -> full.put(12, 6));
    }

    private static void take() {
        SignRanks x = of("bcd");
        Check.same("take(1)", x.take(1), 2);
        shows(x, "bd");
        Check.outside(x, "take(2)", () -> x.take(2));
        Check.outside(x, "take(-1)", () -> x.take(-1));
        Check.same("take(1)", x.take(1), 3);
        shows(x, "b");
        Check.badState(x, "take(0)", () -> x.take(0));
        Check.outside(x, "take(1)", () -> x.take(1));
        Check.same("undo()", x.undo(), 2);
        Check.same("take(0)", x.take(0), 1);
        shows(x, "d");
        Check.same("gone to", x.count(12), 0);
        x.undo();
        x.undo();
        shows(x, "bcd");
    }

    private static void append() {
        SignRanks x = new SignRanks();
        for (int length = 1; length <= 60; length++) {
            Check.same("append", x.append(length % 2 == 0 ? 33 : 126), length);
        }
        Check.same("saved", x.count(13), 0);
        Check.badState(x, "append(97)", () -> x.append(97));
        Check.badArgument(x, "append(32)", () -> x.append(32));
        Check.badArgument(x, "append(127)", () -> x.append(127));
        Check.same("clearBuffer()", x.clearBuffer(), 60);
        Check.badArgument(x, "append(32)", () -> x.append(32));
        Check.badArgument(x, "append(127)", () -> x.append(127));
        Check.badArgument(x, "append(LEAST)", () -> x.append(LEAST));
        Check.badArgument(x, "append(MOST)", () -> x.append(MOST));
        Check.same("append(33)", x.append(33), 1);
    }

    private static void clearBuffer() {
        SignRanks x = new SignRanks();
        type(x, "a2b");
        Check.same("clearBuffer()", x.clearBuffer(), 3);
        Check.same("clearBuffer() again", x.clearBuffer(), 0);
        Check.same("saved", x.count(13), 0);
        type(x, "c");
        Check.same("read()", x.read(), 0);
        shows(x, "c");
    }

    private static void error(String text, int due) {
        SignRanks x = new SignRanks();
        type(x, text);
        Check.same("firstError() of " + text, x.firstError(), due);
        if (due < text.length() || text.isEmpty()) {
            Check.badArgument(x, "read() of " + text, x::read);
        }
    }

    private static void firstError() {
        error("", 0);
        error("a", 1);
        error("f", 1);
        error("g", 0);
        error("`", 0);
        error("A", 0);
        error("2", 0);
        error("a1", 1);
        error("a0", 1);
        error("a2", 2);
        error("a9", 2);
        error("a:", 1);
        error("a22", 2);
        error("a2a2", 4);
        error("aaaaaaaaaaa", 11);
        error("aaaaaaaaaaaa", 11);
        error("a9b2", 4);
        error("a9b3", 3);
        error("a9bc2", 4);
        error("a9b2c", 4);
        error("a9a9", 3);
        error("abcdefabcde2", 11);
        error("a2b2c2d2e2f", 11);
        error("a2b2c2d2e2f2", 11);
        error("ab!c", 2);
        error("!!", 0);
    }

    private static void read() {
        SignRanks x = new SignRanks();
        x.next();
        type(x, "b2a3fb");
        Check.same("read()", x.read(), 91);
        shows(x, "bbaaafb");
        Check.same("clearBuffer() behind read()", x.clearBuffer(), 0);
        Check.same("gone to", x.count(12), 1);
        Check.same("saved", x.count(13), 2);
        Check.badArgument(x, "read() of nothing", x::read);
        type(x, "a2a");
        Check.same("undo()", x.undo(), 1);
        shows(x, "acb");
        Check.same("firstError() behind undo()", x.firstError(), 3);
        Check.same("read()", x.read(), 0);
        shows(x, "aaa");
        type(x, "a9b3");
        Check.badArgument(x, "read()", x::read);
        Check.same("clearBuffer() behind a read() that threw", x.clearBuffer(), 4);
    }

    private static void undo() {
        SignRanks x = new SignRanks();
        for (int rank = 1; rank <= 5; rank++) {
            x.goTo(rank);
        }
        x.goTo(0);
        x.goTo(3);
        Check.same("saved", x.count(13), 6);
        Check.same("gone to", x.count(12), 7);
        type(x, "ab");
        int[] ranks = {0, 5, 4, 3, 2, 1};
        for (int i = 0; i < ranks.length; i++) {
            Check.same("undo()", x.undo(), 5 - i);
            Check.same("the rank", x.count(3), ranks[i]);
            Check.same("gone to", x.count(12), 6 - i);
        }
        Check.badState(x, "undo() with none left", x::undo);
        Check.same("the buffer stays", x.clearBuffer(), 2);
        x.swap(0, 0);
        Check.same("a state is saved if nothing changes", x.count(13), 1);
        SignRanks y = of("a9b2");
        y.undo();
        shows(y, "abc");
        y.take(0);
        y.take(0);
        y.undo();
        y.undo();
        shows(y, "abc");
    }

    /** What saves a state does so once, and its undo brings all back. */
    private static void undoOfEachMethod() {
        for (int method = 0; method < 12; method++) {
            SignRanks x = of("dabca");
            x.next();
            type(x, "ab");
            long before = x.digest();
            switch (method) {
                case 0 -> x.goTo(1);
                case 1 -> x.jump(-3);
                case 2 -> x.next();
                case 3 -> x.previous();
                case 4 -> x.nextSmooth();
                case 5 -> x.goToSmooth(0);
                case 6 -> x.swap(0, 3);
                case 7 -> x.turn(0, 3);
                case 8 -> x.carry(0, 3);
                case 9 -> x.put(0, 3);
                case 10 -> x.take(1);
                default -> x.read();
            }
            Check.same("gone to behind method " + method, x.count(12), method < 6 ? 2 : 1);
            Check.same("saved behind method " + method, x.count(13), 3);
            Check.same("undo()", x.undo(), 2);
            if (method == 11) {
                Check.same("read() cleared the buffer", x.clearBuffer(), 0);
                type(x, "ab");
            }
            Check.same("digest behind undo of method " + method, x.digest(), before);
        }
    }

    private static void signs() {
        SignRanks x = of("fabcdefaab2");
        int[] due = {5, 0, 1, 2, 3, 4, 5, 0, 0, 1, 1};
        for (int place = 0; place < due.length; place++) {
            Check.same("sign(" + place + ")", x.sign(place), due[place]);
        }
        for (int place : new int[] {-1, 11, 12, LEAST, MOST}) {
            Check.outside(x, "sign(" + place + ")", () -> x.sign(place));
        }
        Check.outside(of("a"), "sign(1)", () -> of("a").sign(1));
    }

    private static void digit() {
        SignRanks x = of("dacabd");
        int[] due = {3, 0, 2, 0, 0, 0};
        for (int place = 0; place < due.length; place++) {
            Check.same("digit(" + place + ")", x.digit(place), due[place]);
        }
        for (int place : new int[] {-1, 6, LEAST, MOST}) {
            Check.outside(x, "digit(" + place + ")", () -> x.digit(place));
        }
    }

    private static void many() {
        SignRanks x = of("a3fe2a");
        int[] due = {4, 0, 0, 0, 2, 1};
        for (int sign = 0; sign < due.length; sign++) {
            Check.same("many(" + sign + ")", x.many(sign), due[sign]);
        }
        for (int sign : new int[] {-1, 6, LEAST, MOST}) {
            Check.badArgument(x, "many(" + sign + ")", () -> x.many(sign));
        }
    }

    private static void block() {
        SignRanks x = of("cabab");
        int[][] due = {{0, 30, 12}, {24, 6, 2}, {24, 3, 1}, {25, 2, 1}, {25, 1, 1}, {25, 1, 1}};
        for (int k = 0; k < due.length; k++) {
            for (int what = 0; what < 3; what++) {
                Check.same("block(" + k + ", " + what + ")", x.block(k, what), due[k][what]);
            }
        }
        SignRanks rough = of("bbaac");
        Check.same("block(1, 2)", rough.block(1, 2), 5);
        Check.same("block(2, 2) of a beginning that is not smooth", rough.block(2, 2), 0);
        Check.same("block(5, 2) of a row that is not smooth", rough.block(5, 2), 0);
        Check.badArgument(x, "block(-1, 0)", () -> x.block(-1, 0));
        Check.badArgument(x, "block(6, 0)", () -> x.block(6, 0));
        Check.badArgument(x, "block(0, -1)", () -> x.block(0, -1));
        Check.badArgument(x, "block(0, 3)", () -> x.block(0, 3));
        Check.badArgument(x, "block(LEAST, MOST)", () -> x.block(LEAST, MOST));
    }

    private static void counts(SignRanks x, String of, int... due) {
        for (int what = 0; what < due.length; what++) {
            Check.same("count(" + what + ") of " + of, x.count(what), due[what]);
        }
    }

    private static void count() {
        counts(of("cabab"), "cabab", 5, 3, 30, 25, 12, 10, 1, 5, 2, 4, 14, 25, 0, 1);
        counts(of("bbaac"), "bbaac", 5, 3, 30, 18, 12, 9, 0, 4, 1, 2, 24, 18, 0, 1);
        counts(of("abdc"), "abdc", 4, 4, 24, 1, 24, 1, 1, 1, 1, 3, 17, 1, 0, 1);
        counts(of("e"), "e", 1, 1, 1, 0, 1, 0, 1, 0, 0, 0, 0, 0, 0, 1);
        counts(of("a9b2"), "a9b2", 11, 2, 55, 0, 0, 0, 0, 0, 0, 0, 54, 0, 0, 1);
        counts(of("fe2d2c2b2a2"), "fe2d2c2b2a2", 11, 6, 1247400, 1247399, 478080, 478080, 0, 50, 5, 25, 0,
                1247399, 0, 1);
        SignRanks x = of("fe2d2c2b2a2");
        Check.badArgument(x, "count(14)", () -> x.count(14));
        Check.badArgument(x, "count(-1)", () -> x.count(-1));
        Check.badArgument(x, "count(LEAST)", () -> x.count(LEAST));
        Check.badArgument(x, "count(MOST)", () -> x.count(MOST));
    }

    private static void secondWay() {
        SignRanks x = of("a2b3cd2ef2");
        for (int rank = 0; rank < 100; rank++) {
            x.goTo(rank * 8000 + rank);
            Check.same("count(11)", x.count(11), rank * 8000 + rank);
        }
    }

    private static void ifSwapped() {
        SignRanks x = of("cabab");
        for (int place = 0; place < 5; place++) {
            for (int other = 0; other < 5; other++) {
                int got = x.ifSwapped(place, other);
                Check.same("swap", x.swap(place, other), got);
                x.undo();
            }
        }
        shows(x, "cabab");
        Check.same("ifSwapped(0, 4)", x.ifSwapped(0, 4), 14);
        Check.same("ifSwapped(4, 0)", x.ifSwapped(4, 0), 14);
        Check.same("ifSwapped(2, 2)", x.ifSwapped(2, 2), 25);
        Check.same("saved", x.count(13), 1);
        for (int place : new int[] {-1, 5, LEAST, MOST}) {
            Check.outside(x, "ifSwapped(" + place + ", 0)", () -> x.ifSwapped(place, 0));
            Check.outside(x, "ifSwapped(0, " + place + ")", () -> x.ifSwapped(0, place));
        }
    }

    private static void signOf() {
        SignRanks x = of("cabab");
        String[] some = {"aabbc", "aabcb", "aacbb", "ababc"};
        for (int rank = 0; rank < some.length; rank++) {
            for (int place = 0; place < 5; place++) {
                Check.same("signOf", x.signOf(rank, place), some[rank].charAt(place) - 'a');
            }
        }
        Check.same("signOf(29, 0)", x.signOf(29, 0), 2);
        Check.same("signOf(29, 4)", x.signOf(29, 4), 0);
        shows(x, "cabab");
        Check.badArgument(x, "signOf(30, 0)", () -> x.signOf(30, 0));
        Check.badArgument(x, "signOf(-1, 4)", () -> x.signOf(-1, 4));
        Check.outside(x, "signOf(0, 5)", () -> x.signOf(0, 5));
        Check.outside(x, "signOf(30, 5)", () -> x.signOf(30, 5));
        Check.outside(x, "signOf(-1, -1)", () -> x.signOf(-1, -1));
    }

    private static void having() {
        SignRanks x = of("cabab");
        for (int place = 0; place < 5; place++) {
            Check.same("having all, a", x.having(0, 30, place, 0), 12);
            Check.same("having all, b", x.having(0, 30, place, 1), 12);
            Check.same("having all, c", x.having(0, 30, place, 2), 6);
            Check.same("having all, d", x.having(0, 30, place, 3), 0);
            for (int sign = 0; sign < 6; sign++) {
                SignRanks each = of("cabab");
                for (int rank = 0; rank < 30; rank++) {
                    int due = each.signOf(rank, place) == sign ? 1 : 0;
                    Check.same("having one", each.having(rank, rank + 1, place, sign), due);
                }
            }
        }
        Check.same("having(0, 0, 0, 0)", x.having(0, 0, 0, 0), 0);
        Check.same("having(30, 30, 0, 0)", x.having(30, 30, 0, 0), 0);
        Check.same("having(5, 17, 0, 1)", x.having(5, 17, 0, 1), 5);
        Check.badArgument(x, "having(-1, 3, 0, 0)", () -> x.having(-1, 3, 0, 0));
        Check.badArgument(x, "having(3, 2, 0, 0)", () -> x.having(3, 2, 0, 0));
        Check.badArgument(x, "having(0, 31, 0, 0)", () -> x.having(0, 31, 0, 0));
        Check.badArgument(x, "having(31, 31, 0, 0)", () -> x.having(31, 31, 0, 0));
        Check.badArgument(x, "having(0, 30, 0, 6)", () -> x.having(0, 30, 0, 6));
        Check.badArgument(x, "having(0, 30, 0, -1)", () -> x.having(0, 30, 0, -1));
        Check.outside(x, "having(0, 30, 5, 0)", () -> x.having(0, 30, 5, 0));
        Check.outside(x, "having(0, 30, -1, 0)", () -> x.having(0, 30, -1, 0));
        Check.outside(x, "having(3, 2, 5, 6)", () -> x.having(3, 2, 5, 6));
    }

    private static void stepsTo() {
        SignRanks x = new SignRanks();
        int[] due = {0, 1, 1, 2, 2, 3};
        for (int rank = 0; rank < due.length; rank++) {
            Check.same("stepsTo(" + rank + ")", x.stepsTo(rank), due[rank]);
        }
        Check.badArgument(x, "stepsTo(6)", () -> x.stepsTo(6));
        Check.badArgument(x, "stepsTo(-1)", () -> x.stepsTo(-1));
        SignRanks like = of("abab");
        int[] steps = {1, 0, 1, 1, 2, 3};
        for (int rank = 0; rank < steps.length; rank++) {
            Check.same("stepsTo(" + rank + ") of abab", like.stepsTo(rank), steps[rank]);
        }
        shows(like, "abab");
        SignRanks large = of("a2b2c2d2e2f");
        Check.same("stepsTo the last one", large.stepsTo(1247399), 50);
    }

    private static void best(String text, int rank, int lower, int greater) {
        SignRanks x = of(text);
        Check.same("bestSwap(0) of " + text, x.bestSwap(0), rank);
        Check.same("bestSwap(1) of " + text, x.bestSwap(1), lower);
        Check.same("bestSwap(2) of " + text, x.bestSwap(2), greater);
        Check.badArgument(x, "bestSwap(3)", () -> x.bestSwap(3));
        Check.badArgument(x, "bestSwap(-1)", () -> x.bestSwap(-1));
    }

    private static void bestSwap() {
        best("abc", 5, 0, 2);
        best("cba", 4, 1, 2);
        best("b", -1, -1, -1);
        best("f4", 0, 0, 1);
        best("cbba", 11, 1, 2);
        best("bac", 4, 0, 2);
        best("abb", 2, 0, 2);
        best("ba", 0, 0, 1);
        best("bbaa", 5, 0, 1);
    }

    private static void share() {
        SignRanks x = new SignRanks();
        Check.same("share()", x.share(), 0.0);
        x.goTo(1);
        Check.same("share()", x.share(), 1.0 / 6);
        x.goTo(3);
        Check.same("share()", x.share(), 0.5);
        x.goTo(5);
        Check.same("share()", x.share(), 5.0 / 6);
        Check.same("share() of one sign", of("a").share(), 0.0);
        Check.same("share()", of("fe2d2c2b2a2").share(), 1247399.0 / 1247400);
    }

    private static long hash(long... values) {
        long hash = 2579;
        for (long value : values) {
            hash = 31 * hash + value;
        }
        return hash;
    }

    private static long bits(double share) {
        return Double.doubleToLongBits(share);
    }

    private static void digest() {
        SignRanks x = new SignRanks();
        Check.same("digest()", x.digest(), hash(3, 3, 6, 0, 6, 0, 1, 0, 0, 0, 5, 0, 0, 0,
                0, 0, 0, 6, 6, 0, 0, 1, 0, 0, 2, 2, 2, 0, 2, 0, 0, 1, 1, 5, 0,
                1, 1, 1, 0, 0, 0, 1, 2, 0, 2, 5, 0, 2, bits(0.0), 0));
        x.goTo(4);
        type(x, "a~");
        Check.same("digest()", x.digest(), hash(3, 3, 6, 4, 6, 4, 1, 2, 1, 1, 2, 4, 1, 1,
                2, 2, 0, 6, 6, 4, 2, 0, 0, 4, 2, 2, 1, 1, 1, 0, 4, 1, 1, 2, 1,
                1, 1, 1, 0, 0, 0, 1, 2, 0, 2, 5, 1, 2, bits(4.0 / 6), 2, 97, 126));
        Check.same("digest() again", x.digest(), x.digest());
        Check.same("saved", x.count(13), 1);
        SignRanks one = of("f");
        Check.same("digest() of one sign", one.digest(), hash(1, 1, 1, 0, 1, 0, 1, 0, 0, 0, 0, 0, 0, 1,
                5, 0, 0, 1, 1, 0, 0, 0, 0, 0, 0, 0, 1, 5, 0, -1, -1, -1, 0, 0));
        for (int rank = 1; rank < 1247400; rank += 12345) {
            SignRanks large = of("a2b2c2d2e2f");
            large.goTo(rank);
            Check.same("the bits of share", tail(large), bits(rank / 1247400.0));
        }
    }

    /** The bits of share, taken out of the digest again: it ends with bestSwap, the bits, and an empty buffer. */
    private static long tail(SignRanks x) {
        long ahead = 2579;
        for (int what = 0; what < 14; what++) {
            ahead = 31 * ahead + x.count(what);
        }
        for (int place = 0; place < x.count(0); place++) {
            ahead = 31 * (31 * ahead + x.sign(place)) + x.digit(place);
            for (int what = 0; what < 3; what++) {
                ahead = 31 * ahead + x.block(place, what);
            }
            ahead = 31 * (31 * ahead + x.ifSwapped(place, 0)) + x.having(0, x.count(3), place, 0);
        }
        for (int sign = 0; sign < 6; sign++) {
            ahead = 31 * ahead + x.many(sign);
        }
        for (int place = 0; place < x.count(0); place++) {
            ahead = 31 * ahead + x.signOf(x.count(2) / 2, place);
        }
        ahead = 31 * ahead + x.stepsTo(x.count(2) / 2);
        for (int what = 0; what < 3; what++) {
            ahead = 31 * ahead + x.bestSwap(what);
        }
        // 31 is odd, so it has an inverse modulo 2 to the 64: the digest is 31 * (31 * ahead + bits) + 0
        long inverse = 1;
        for (int i = 0; i < 6; i++) {
            inverse = inverse * (2 - 31 * inverse);
        }
        return inverse * x.digest() - 31 * ahead;
    }
}
