/** Each boundary case that the document names of promises 18 to 22, from sign to count, has its test. */
public final class LooksEdgesTest extends Edges {
    private static final String[] COUNTS = {
        "n", "unlike signs", "N", "the rank", "M", "the smooth rank", "1 if it is smooth", "inversions", "descents",
        "the major index", "the rank turned around", "the rank by the second way"
    };

    private LooksEdgesTest() {
    }

    public static void main(String[] args) {
        signPlaces();
        digitPlaces();
        digitRows();
        manySigns();
        blockBeginnings();
        blockNumbers();
        blockRows();
        countRanges();
        countRows();
        countSoFar();
        countSaved();
        secondWay();
        turnedAround();
        end("LooksEdgesTest", 18, 22);
    }

    private static void signPlaces() {
        test("promise 18, sign: the place 0", () -> look("bfa", 1, x -> x.sign(0)));
        test("promise 18, sign: the greatest sign, 5", () -> look("bfa", 5, x -> x.sign(1)));
        test("promise 18, sign: the last place, the least sign, 0", () -> look("bfa", 0, x -> x.sign(2)));
        test("promise 18, sign: the place -1 is refused", () -> refused("bfa", OUTSIDE, x -> x.sign(-1)));
        test("promise 18, sign: the place n is refused", () -> refused("bfa", OUTSIDE, x -> x.sign(3)));
        test("promise 18, sign: the least int is refused", () -> refused("bfa", OUTSIDE, x -> x.sign(LEAST)));
        test("promise 18, sign: the greatest int is refused", () -> refused("bfa", OUTSIDE, x -> x.sign(MOST)));
        test("promise 18, sign: one sign, the place 0", () -> look("f", 5, x -> x.sign(0)));
        test("promise 18, sign: one sign, the place 1 is refused", () -> refused("f", OUTSIDE, x -> x.sign(1)));
        test("promise 18, sign: 11 signs, the place 0", () -> look(LARGE_LAST, 5, x -> x.sign(0)));
        test("promise 18, sign: 11 signs, the place 10", () -> look(LARGE, 4, x -> x.sign(10)));
        test("promise 18, sign: 11 signs, the place 11 is refused", () -> refused(LARGE, OUTSIDE, x -> x.sign(11)));
        test("promise 18, sign: each place of 11 signs", () -> {
            SignRanks x = of(LARGE_LAST);
            for (int place = 0; place < 11; place++) {
                Check.same("sign", x.sign(place), LARGE_LAST.charAt(place) - 'a');
            }
        });
        test("promise 18, sign: a place that was there before take is refused", () -> refusedOn(() -> {
            SignRanks x = of("bfa");
            x.take(0);
            return x;
        }, OUTSIDE, x -> x.sign(2)));
    }

    private static void digitPlaces() {
        test("promise 19, digit: the place 0", () -> look("cabab", 2, x -> x.digit(0)));
        test("promise 19, digit: the last place, always 0", () -> look("abcdf", 0, x -> x.digit(4)));
        test("promise 19, digit: the place -1 is refused", () -> refused("cabab", OUTSIDE, x -> x.digit(-1)));
        test("promise 19, digit: the place n is refused", () -> refused("cabab", OUTSIDE, x -> x.digit(5)));
        test("promise 19, digit: the least int is refused", () -> refused("cabab", OUTSIDE, x -> x.digit(LEAST)));
        test("promise 19, digit: the greatest int is refused", () -> refused("cabab", OUTSIDE, x -> x.digit(MOST)));
        test("promise 19, digit: one sign, the place 0", () -> look("f", 0, x -> x.digit(0)));
        test("promise 19, digit: one sign, the place 1 is refused", () -> refused("f", OUTSIDE, x -> x.digit(1)));
        test("promise 19, digit: 11 signs, the place 10", () -> look(LARGE, 0, x -> x.digit(10)));
        test("promise 19, digit: 11 signs, the place 11 is refused", () -> refused(LARGE, OUTSIDE, x -> x.digit(11)));
    }

    private static void digits(String signs, int... due) {
        test("promise 19, digit: each place of " + signs, () -> {
            for (SignRanks x : new SignRanks[] {of(signs), used(signs)}) {
                for (int place = 0; place < due.length; place++) {
                    Check.same("digit(" + place + ")", x.digit(place), due[place]);
                }
            }
        });
    }

    private static void digitRows() {
        test("promise 19, digit: the greatest one, 5, before all others", () -> look("fabcde", 5, x -> x.digit(0)));
        test("promise 19, digit: like signs count once", () -> look("baaaa", 1, x -> x.digit(0)));
        test("promise 19, digit: signs ahead of the place don't count", () -> look("abc", 0, x -> x.digit(2)));
        test("promise 19, digit: signs that are not there don't count", () -> look("fb", 1, x -> x.digit(0)));
        test("promise 19, digit: a like sign behind it doesn't count", () -> look("bab", 1, x -> x.digit(0)));
        digits("abc", 0, 0, 0);
        digits("cba", 2, 1, 0);
        digits("abba", 0, 1, 1, 0);
        digits(ALIKE, 0, 0, 0, 0, 0, 0, 0, 0, 0, 0, 0);
        digits(LARGE, 0, 1, 2, 3, 4, 5, 0, 0, 0, 0, 0);
        digits(LARGE_FIRST, 0, 0, 0, 0, 0, 0, 0, 0, 0, 0, 0);
        digits(LARGE_LAST, 5, 4, 4, 3, 3, 2, 2, 1, 1, 0, 0);
        digits("fededcbcaba", 5, 4, 3, 4, 3, 2, 1, 2, 0, 1, 0);
        test("promise 19, digit: the arrangement can be found again by the digits", () -> {
            for (int rank = 0; rank < 30; rank++) {
                SignRanks x = of("abacb");
                x.goTo(rank);
                Check.holds("found again", byDigits(x, "aabbc").equals(row(x)));
            }
        });
    }

    /** At each place, of the unlike signs that are left, in their order, the one with the digit's number. */
    private static String byDigits(SignRanks x, String sorted) {
        StringBuilder left = new StringBuilder(sorted);
        StringBuilder found = new StringBuilder();
        for (int place = 0; place < sorted.length(); place++) {
            String unlike = left.chars().distinct().collect(StringBuilder::new, StringBuilder::appendCodePoint,
                    StringBuilder::append).toString();
            char sign = unlike.charAt(x.digit(place));
            found.append(sign);
            left.deleteCharAt(left.indexOf(String.valueOf(sign)));
        }
        return found.toString();
    }

    private static void manySigns() {
        test("promise 20, many: the sign 0", () -> look("afaaf", 3, x -> x.many(0)));
        test("promise 20, many: the sign 5", () -> look("afaaf", 2, x -> x.many(5)));
        test("promise 20, many: a sign that is not there", () -> look("afaaf", 0, x -> x.many(1)));
        test("promise 20, many: the sign -1 is refused", () -> refused("afaaf", ARGUMENT, x -> x.many(-1)));
        test("promise 20, many: the sign 6 is refused", () -> refused("afaaf", ARGUMENT, x -> x.many(6)));
        test("promise 20, many: the least int is refused", () -> refused("afaaf", ARGUMENT, x -> x.many(LEAST)));
        test("promise 20, many: the greatest int is refused", () -> refused("afaaf", ARGUMENT, x -> x.many(MOST)));
        test("promise 20, many: one sign, itself", () -> look("f", 1, x -> x.many(5)));
        test("promise 20, many: one sign, another one", () -> look("f", 0, x -> x.many(0)));
        test("promise 20, many: 11 like signs", () -> look(ALIKE, 11, x -> x.many(1)));
        test("promise 20, many: 11 signs, those that are there twice", () -> look(LARGE, 2, x -> x.many(4)));
        test("promise 20, many: 11 signs, the one that is there once", () -> look(LARGE, 1, x -> x.many(5)));
    }

    private static void blockBeginnings() {
        test("promise 21, block: an empty beginning, its lowest rank is 0", () -> look("cabab", 0, x -> x.block(0, 0)));
        test("promise 21, block: an empty beginning, its size is N", () -> look("cabab", 30, x -> x.block(0, 1)));
        test("promise 21, block: an empty beginning, M smooth ones", () -> look("cabab", 12, x -> x.block(0, 2)));
        test("promise 21, block: the whole one, its lowest rank is the rank",
                () -> look("cabab", 25, x -> x.block(5, 0)));
        test("promise 21, block: the whole one, its size is 1", () -> look("cabab", 1, x -> x.block(5, 1)));
        test("promise 21, block: the whole one, smooth itself", () -> look("cabab", 1, x -> x.block(5, 2)));
        test("promise 21, block: the whole one, not smooth itself", () -> look("cabaa", 0, x -> x.block(5, 2)));
        test("promise 21, block: all but one sign, its lowest rank", () -> look("cabab", 25, x -> x.block(4, 0)));
        test("promise 21, block: all but one sign, its size is 1", () -> look("cabab", 1, x -> x.block(4, 1)));
        test("promise 21, block: one sign as beginning, its lowest rank", () -> look("cabab", 24, x -> x.block(1, 0)));
        test("promise 21, block: one sign as beginning, its size", () -> look("cabab", 6, x -> x.block(1, 1)));
        test("promise 21, block: one sign as beginning, its smooth ones", () -> look("cabab", 2, x -> x.block(1, 2)));
        test("promise 21, block: k -1 is refused", () -> refused("cabab", ARGUMENT, x -> x.block(-1, 0)));
        test("promise 21, block: k n + 1 is refused", () -> refused("cabab", ARGUMENT, x -> x.block(6, 1)));
        test("promise 21, block: k of the least int is refused",
                () -> refused("cabab", ARGUMENT, x -> x.block(LEAST, 2)));
        test("promise 21, block: k of the greatest int is refused",
                () -> refused("cabab", ARGUMENT, x -> x.block(MOST, 2)));
        test("promise 21, block: k -1 is refused with each what", () -> {
            refused("cabab", ARGUMENT, x -> x.block(-1, 1));
            refused("cabab", ARGUMENT, x -> x.block(-1, 2));
        });
        test("promise 21, block: k n + 1 is refused with each what", () -> {
            refused("cabab", ARGUMENT, x -> x.block(6, 0));
            refused("cabab", ARGUMENT, x -> x.block(6, 2));
        });
    }

    private static void blockNumbers() {
        test("promise 21, block: what -1 is refused", () -> refused("cabab", ARGUMENT, x -> x.block(0, -1)));
        test("promise 21, block: what 3 is refused", () -> refused("cabab", ARGUMENT, x -> x.block(5, 3)));
        test("promise 21, block: what of the least int is refused",
                () -> refused("cabab", ARGUMENT, x -> x.block(2, LEAST)));
        test("promise 21, block: what of the greatest int is refused",
                () -> refused("cabab", ARGUMENT, x -> x.block(2, MOST)));
        test("promise 21, block: k and what wrong is refused", () -> {
            refused("cabab", ARGUMENT, x -> x.block(-1, 3));
            refused("cabab", ARGUMENT, x -> x.block(6, -1));
            refused("cabab", ARGUMENT, x -> x.block(MOST, LEAST));
        });
        test("promise 21, block: a beginning that is not smooth has no smooth ones",
                () -> look("bbaac", 0, x -> x.block(2, 2)));
        test("promise 21, block: a smooth beginning ahead of like signs",
                () -> look("bbaac", 5, x -> x.block(1, 2)));
    }

    private static void blocks(String signs, int[] lowest, int[] sizes, int[] smooth) {
        test("promise 21, block: each beginning of " + signs, () -> {
            for (SignRanks x : new SignRanks[] {of(signs), used(signs)}) {
                for (int k = 0; k < lowest.length; k++) {
                    Check.same("block(" + k + ", 0)", x.block(k, 0), lowest[k]);
                    Check.same("block(" + k + ", 1)", x.block(k, 1), sizes[k]);
                    Check.same("block(" + k + ", 2)", x.block(k, 2), smooth[k]);
                }
            }
        });
    }

    private static int[] all(int... numbers) {
        return numbers;
    }

    private static void blockRows() {
        test("promise 21, block: one sign, k 2 is refused", () -> refused("f", ARGUMENT, x -> x.block(2, 0)));
        test("promise 21, block: 11 signs, k 12 is refused", () -> refused(LARGE, ARGUMENT, x -> x.block(12, 0)));
        blocks("f", all(0, 0), all(1, 1), all(1, 1));
        blocks("aba", all(0, 0, 1, 1), all(3, 2, 1, 1), all(1, 1, 1, 1));
        blocks("aaab", all(0, 0, 0, 0, 0), all(4, 3, 2, 1, 1), all(0, 0, 0, 0, 0));
        blocks("bbaac", all(0, 12, 18, 18, 18, 18), all(30, 12, 3, 2, 1, 1), all(12, 5, 0, 0, 0, 0));
        blocks(ALIKE, new int[12], all(1, 1, 1, 1, 1, 1, 1, 1, 1, 1, 1, 1), new int[12]);
        blocks(LARGE,
                all(0, 0, 22680, 32760, 36540, 37980, 38580, 38580, 38580, 38580, 38580, 38580),
                all(1247400, 226800, 45360, 10080, 2520, 720, 120, 24, 6, 2, 1, 1),
                all(478080, 87720, 19740, 5100, 1560, 600, 120, 24, 6, 2, 1, 1));
        blocks("fededcbcaba",
                all(0, 1134000, 1224720, 1239840, 1244250, 1244790, 1244850, 1244862, 1244871, 1244871, 1244872,
                        1244872),
                all(1247400, 113400, 22680, 5040, 630, 90, 30, 12, 3, 2, 1, 1),
                all(478080, 39480, 7896, 1974, 246, 30, 10, 5, 1, 1, 1, 1));
        blocks(LARGE_LAST,
                all(0, 1134000, 1224720, 1244880, 1246770, 1247310, 1247370, 1247394, 1247397, 1247399, 1247399,
                        1247399),
                all(1247400, 113400, 22680, 2520, 630, 90, 30, 6, 3, 1, 1, 1),
                all(478080, 39480, 7896, 0, 0, 0, 0, 0, 0, 0, 0, 0));
    }

    private static void countRanges() {
        test("promise 22, count: the least what, 0", () -> look("abcde", 5, x -> x.count(0)));
        test("promise 22, count: the greatest what, 13",
                () -> looksOn(() -> usedLittle("abcde"), 3, x -> x.count(13)));
        test("promise 22, count: what -1 is refused", () -> refused("abcde", ARGUMENT, x -> x.count(-1)));
        test("promise 22, count: what 14 is refused", () -> refused("abcde", ARGUMENT, x -> x.count(14)));
        test("promise 22, count: what of the least int is refused",
                () -> refused("abcde", ARGUMENT, x -> x.count(LEAST)));
        test("promise 22, count: what of the greatest int is refused",
                () -> refused("abcde", ARGUMENT, x -> x.count(MOST)));
    }

    private static void counts(String signs, int... due) {
        for (int what = 0; what < due.length; what++) {
            int asked = what;
            test("promise 22, count: " + asked + ", " + COUNTS[asked] + ", of " + signs,
                    () -> look(signs, due[asked], x -> x.count(asked)));
        }
    }

    private static void countRows() {
        counts("f", 1, 1, 1, 0, 1, 0, 1, 0, 0, 0, 0, 0);
        counts("dd", 2, 1, 1, 0, 0, 0, 0, 0, 0, 0, 0, 0);
        counts("ab", 2, 2, 2, 0, 2, 0, 1, 0, 0, 0, 1, 0);
        counts("ba", 2, 2, 2, 1, 2, 1, 1, 1, 1, 1, 0, 1);
        counts("aab", 3, 2, 3, 0, 1, 0, 0, 0, 0, 0, 2, 0);
        counts("aba", 3, 2, 3, 1, 1, 0, 1, 1, 1, 2, 1, 1);
        counts("baa", 3, 2, 3, 2, 1, 1, 0, 2, 1, 1, 0, 2);
        counts("aaab", 4, 2, 4, 0, 0, 0, 0, 0, 0, 0, 3, 0);
        counts("baaa", 4, 2, 4, 3, 0, 0, 0, 3, 1, 1, 0, 3);
        counts("abba", 4, 2, 6, 2, 2, 1, 0, 2, 1, 3, 2, 2);
        counts("baba", 4, 2, 6, 4, 2, 1, 1, 3, 2, 4, 1, 4);
        counts("cbaba", 5, 3, 30, 28, 12, 11, 1, 7, 3, 7, 3, 28);
        counts("cbbaa", 5, 3, 30, 29, 12, 12, 0, 8, 2, 4, 0, 29);
        counts("fedcba", 6, 6, 720, 719, 720, 719, 1, 15, 5, 15, 0, 719);
        counts("fabcdef", 7, 6, 2520, 1800, 1800, 1200, 1, 5, 1, 1, 2366, 1800);
        counts(ALIKE, 11, 1, 1, 0, 0, 0, 0, 0, 0, 0, 0, 0);
        counts(LARGE, 11, 6, 1247400, 38580, 478080, 4740, 1, 15, 1, 6, 1066679, 38580);
        counts(LARGE_FIRST, 11, 6, 1247400, 0, 478080, 0, 0, 0, 0, 0, 1247399, 0);
        counts(LARGE_LAST, 11, 6, 1247400, 1247399, 478080, 478080, 0, 50, 5, 25, 0, 1247399);
        counts("fededcbcaba", 11, 6, 1247400, 1244872, 478080, 478079, 1, 47, 7, 36, 23313, 1244872);
        counts("ababcdcdefe", 11, 6, 1247400, 22711, 478080, 0, 1, 3, 3, 18, 1133908, 22711);
        for (int alike = 1; alike <= 10; alike++) {
            int all = alike + 1;
            String signs = "b" + "c".repeat(alike);
            test("promise 22, count: 2, N, of one sign and " + alike + " other ones, alike",
                    () -> look(signs, all, x -> x.count(2)));
        }
        test("promise 22, count: 5, the smooth rank, of each one, itself not counted", () -> {
            int[] due = {0, 0, 0, 0, 1, 2, 2, 2, 3, 4, 4, 5, 5, 5, 5, 6, 7, 8, 9, 9, 9, 9, 9, 10, 10, 10, 11, 11, 11,
                12};
            SignRanks x = of("aabbc");
            for (int rank = 0; rank < 30; rank++) {
                x.goTo(rank);
                Check.same("the smooth rank at " + rank, x.count(5), due[rank]);
            }
        });
    }

    private static void goes(String method, Call call) {
        test("promise 22, count: 12 counts a call of " + method, () -> {
            SignRanks x = usedLittle("bacab");
            call.applyAsLong(x);
            Check.same("gone to", x.count(12), 3);
            call.applyAsLong(x);
            Check.same("gone to", x.count(12), 4);
        });
    }

    private static void stays(String method, Call call) {
        test("promise 22, count: 12 doesn't count a call of " + method, () -> {
            SignRanks x = usedLittle("cabab");
            x.clearBuffer();
            type(x, "bacab");
            call.applyAsLong(x);
            Check.same("gone to", x.count(12), 2);
        });
    }

    private static void countSoFar() {
        test("promise 22, count: 12 is 0 at first",
                () -> looksOn(SignRanks::new, 0, x -> x.count(12)));
        goes("goTo", x -> x.goTo(0));
        goes("jump", x -> x.jump(1));
        goes("next", x -> x.next());
        goes("previous", x -> x.previous());
        goes("nextSmooth", x -> x.nextSmooth());
        goes("goToSmooth", x -> x.goToSmooth(0));
        stays("swap", x -> x.swap(0, 1));
        stays("turn", x -> x.turn(0, 1));
        stays("carry", x -> x.carry(0, 20));
        stays("put", x -> x.put(0, 0));
        stays("take", x -> x.take(0));
        stays("read", x -> x.read());
        stays("append", x -> x.append('a'));
        stays("clearBuffer", x -> x.clearBuffer());
        stays("digest", x -> x.digest());
        stays("signOf", x -> x.signOf(0, 0));
        stays("ifSwapped", x -> x.ifSwapped(0, 1));
        test("promise 22, count: 12 counts a call that leads nowhere else", () -> {
            SignRanks x = of("f");
            x.next();
            x.previous();
            x.goTo(0);
            x.jump(0);
            x.goToSmooth(0);
            Check.same("gone to", x.count(12), 5);
        });
        test("promise 22, count: 12 counts calls beyond the six that can be undone", () -> {
            SignRanks x = new SignRanks();
            for (int call = 0; call < 300; call++) {
                x.next();
            }
            Check.same("gone to", x.count(12), 300);
        });
    }

    private static void countSaved() {
        test("promise 22, count: 13 is 0 at first", () -> looksOn(SignRanks::new, 0, x -> x.count(13)));
        test("promise 22, count: 13 is 1 behind one call, and 6 behind six and more", () -> {
            SignRanks x = new SignRanks();
            for (int call = 1; call <= 20; call++) {
                x.swap(0, 1);
                Check.same("saved", x.count(13), call < 6 ? call : 6);
            }
        });
        test("promise 22, count: 13 is 0 again behind undo", () -> {
            SignRanks x = new SignRanks();
            x.next();
            x.undo();
            Check.same("saved", x.count(13), 0);
        });
    }

    private static void secondWay() {
        test("promise 22, count: 11, the second way, is the rank of each one", () -> {
            SignRanks x = of("aabbc");
            for (int rank = 0; rank < 30; rank++) {
                x.goTo(rank);
                Check.same("the second way", x.count(11), rank);
            }
        });
    }

    private static void turnedAround() {
        test("promise 22, count: 10, of a row that reads alike both ways, is its rank",
                () -> look("abcba", 8, x -> x.count(10)));
        test("promise 22, count: 10 is what turn would answer", () -> {
            SignRanks x = of("aabbc");
            for (int rank = 0; rank < 30; rank++) {
                x.goTo(rank);
                int due = x.count(10);
                Check.same("turn", x.turn(0, 4), due);
                x.undo();
            }
        });
    }
}
