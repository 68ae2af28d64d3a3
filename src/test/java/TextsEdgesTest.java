/** Each boundary case that the document names of promises 11 to 17, from put to undo, has its test. */
public final class TextsEdgesTest extends Edges {
    private static final String FULL = "a".repeat(60);

    private TextsEdgesTest() {
    }

    public static void main(String[] args) {
        putPlaces();
        putSigns();
        putOrder();
        putSaves();
        takePlaces();
        takeRows();
        takeSaves();
        appendCodes();
        appendLengths();
        clearBuffer();
        errorLetters();
        errorNumbers();
        errorMoreThanEleven();
        errorLengths();
        readTexts();
        readRefused();
        readSaves();
        undoNone();
        undoSix();
        undoBringsBack();
        end("TextsEdgesTest", 11, 17);
    }

    /** One with six saved states, and this text typed. */
    private static SignRanks typed(String text) {
        SignRanks x = used("bca");
        x.clearBuffer();
        type(x, text);
        return x;
    }

    private static void putPlaces() {
        test("promise 11, put: ahead of the place 0", () -> leads("abc", x -> x.put(0, 5), 24, "fabc"));
        test("promise 11, put: ahead of the last sign", () -> leads("abc", x -> x.put(2, 5), 24, "abfc"));
        test("promise 11, put: at the place n, behind the last sign", () -> leads("abc", x -> x.put(3, 5), 24, "abcf"));
        test("promise 11, put: the place -1 is refused", () -> refused("abc", OUTSIDE, x -> x.put(-1, 5)));
        test("promise 11, put: the place n + 1 is refused", () -> refused("abc", OUTSIDE, x -> x.put(4, 5)));
        test("promise 11, put: the place of the least int is refused",
                () -> refused("abc", OUTSIDE, x -> x.put(LEAST, 5)));
        test("promise 11, put: the place of the greatest int is refused",
                () -> refused("abc", OUTSIDE, x -> x.put(MOST, 5)));
        test("promise 11, put: one sign, ahead of it", () -> leads("b", x -> x.put(0, 0), 2, "ab"));
        test("promise 11, put: one sign, behind it", () -> leads("b", x -> x.put(1, 0), 2, "ba"));
        test("promise 11, put: one sign, the place 2 is refused", () -> refused("b", OUTSIDE, x -> x.put(2, 0)));
        test("promise 11, put: the eleventh sign, ahead",
                () -> leads("abcdefabcd", x -> x.put(0, 5), 1247400, "fabcdefabcd"));
        test("promise 11, put: the eleventh sign, behind the last one",
                () -> leads("abcdefabcd", x -> x.put(10, 5), 1247400, "abcdefabcdf"));
        test("promise 11, put: ten signs, the place 11 is refused",
                () -> refused("abcdefabcd", OUTSIDE, x -> x.put(11, 5)));
    }

    private static void putSigns() {
        test("promise 11, put: the sign 0", () -> leads("bcd", x -> x.put(1, 0), 24, "bacd"));
        test("promise 11, put: the sign 5", () -> leads("bcd", x -> x.put(1, 5), 24, "bfcd"));
        test("promise 11, put: a sign that is there, N tells like signs", () -> leads("abc", x -> x.put(1, 0), 12, "aabc"));
        test("promise 11, put: the only sign again, N stays 1", () -> leads("c", x -> x.put(1, 2), 1, "cc"));
        test("promise 11, put: the sign -1 is refused", () -> refused("bcd", ARGUMENT, x -> x.put(1, -1)));
        test("promise 11, put: the sign 6 is refused", () -> refused("bcd", ARGUMENT, x -> x.put(1, 6)));
        test("promise 11, put: the sign of the least int is refused",
                () -> refused("bcd", ARGUMENT, x -> x.put(1, LEAST)));
        test("promise 11, put: the sign of the greatest int is refused",
                () -> refused("bcd", ARGUMENT, x -> x.put(1, MOST)));
    }

    private static void putOrder() {
        test("promise 11, put: with 11 signs it is refused", () -> refused(LARGE, STATE, x -> x.put(5, 0)));
        test("promise 11, put: with 11 signs, ahead of the place 0, it is refused",
                () -> refused(LARGE, STATE, x -> x.put(0, 0)));
        test("promise 11, put: with 11 signs, behind the last one, it is refused",
                () -> refused(LARGE, STATE, x -> x.put(11, 5)));
        test("promise 11, put: with 11 like signs it is refused", () -> refused(ALIKE, STATE, x -> x.put(3, 1)));
        test("promise 11, put: place and sign wrong: no such place comes first",
                () -> refused("abc", OUTSIDE, x -> x.put(4, 6)));
        test("promise 11, put: place and sign wrong below 0: no such place comes first",
                () -> refused("abc", OUTSIDE, x -> x.put(-1, -1)));
        test("promise 11, put: 11 signs and a wrong place: no such place comes first", () -> {
            refused(LARGE, OUTSIDE, x -> x.put(12, 0));
            refused(LARGE, OUTSIDE, x -> x.put(-1, 0));
        });
        test("promise 11, put: 11 signs and a wrong sign: the sign comes first", () -> {
            refused(LARGE, ARGUMENT, x -> x.put(11, 6));
            refused(LARGE, ARGUMENT, x -> x.put(0, -1));
        });
        test("promise 11, put: 11 signs, place and sign wrong: no such place comes first",
                () -> refused(LARGE, OUTSIDE, x -> x.put(12, 6)));
    }

    private static void putSaves() {
        test("promise 11, put: undoable, and no arrangement gone to", () -> undoable("abc", 0, x -> x.put(1, 5)));
        test("promise 11, put: undoable, the eleventh sign", () -> undoable("abcdefabcd", 0, x -> x.put(0, 5)));
        test("promise 11, put: a seventh state drops the oldest one", () -> dropsOldest("abc", x -> x.put(0, 0)));
    }

    private static void takePlaces() {
        test("promise 12, take: the place 0", () -> leads("fbd", x -> x.take(0), 5, "bd"));
        test("promise 12, take: the place in the middle", () -> leads("fbd", x -> x.take(1), 1, "fd"));
        test("promise 12, take: the last place", () -> leads("fbd", x -> x.take(2), 3, "fb"));
        test("promise 12, take: the sign 0", () -> leads("bac", x -> x.take(1), 0, "bc"));
        test("promise 12, take: the place -1 is refused", () -> refused("fbd", OUTSIDE, x -> x.take(-1)));
        test("promise 12, take: the place n is refused", () -> refused("fbd", OUTSIDE, x -> x.take(3)));
        test("promise 12, take: the place of the least int is refused",
                () -> refused("fbd", OUTSIDE, x -> x.take(LEAST)));
        test("promise 12, take: the place of the greatest int is refused",
                () -> refused("fbd", OUTSIDE, x -> x.take(MOST)));
    }

    private static void takeRows() {
        test("promise 12, take: one of two signs", () -> leads("fb", x -> x.take(0), 5, "b"));
        test("promise 12, take: the last one of two signs", () -> leads("fb", x -> x.take(1), 1, "f"));
        test("promise 12, take: the only sign is refused", () -> refused("f", STATE, x -> x.take(0)));
        test("promise 12, take: the only sign, and a place 1: no such place comes first",
                () -> refused("f", OUTSIDE, x -> x.take(1)));
        test("promise 12, take: the only sign, and a place -1: no such place comes first",
                () -> refused("f", OUTSIDE, x -> x.take(-1)));
        test("promise 12, take: of 11 signs the place 0", () -> leads(LARGE, x -> x.take(0), 0, "bcdefabcde"));
        test("promise 12, take: of 11 signs the place 10", () -> leads(LARGE, x -> x.take(10), 4, "abcdefabcd"));
        test("promise 12, take: of 11 signs the place 11 is refused",
                () -> refused(LARGE, OUTSIDE, x -> x.take(11)));
        test("promise 12, take: of 11 like signs", () -> leads(ALIKE, x -> x.take(7), 1, "bbbbbbbbbb"));
        test("promise 12, take: 11 signs are room again for one behind it", () -> {
            SignRanks x = of(LARGE);
            x.take(10);
            Check.same("put", x.put(10, 4), 1247400);
            shows(x, LARGE);
        });
    }

    private static void takeSaves() {
        test("promise 12, take: undoable, and no arrangement gone to", () -> undoable("fbd", 0, x -> x.take(1)));
        test("promise 12, take: undoable, of 11 signs", () -> undoable(LARGE, 0, x -> x.take(10)));
        test("promise 12, take: undoable, of two signs", () -> undoable("ab", 0, x -> x.take(0)));
        test("promise 12, take: a seventh state drops the oldest one", () -> dropsOldest("fbd", x -> x.take(0)));
    }

    private static void appendCodes() {
        test("promise 13, append: the least code, 33", () -> leads("bca", x -> appended(x, 33), 1, "bca"));
        test("promise 13, append: the greatest code, 126", () -> leads("bca", x -> appended(x, 126), 1, "bca"));
        test("promise 13, append: the code 32 is refused", () -> refused("bca", ARGUMENT, x -> x.append(32)));
        test("promise 13, append: the code 127 is refused", () -> refused("bca", ARGUMENT, x -> x.append(127)));
        test("promise 13, append: the least int is refused", () -> refused("bca", ARGUMENT, x -> x.append(LEAST)));
        test("promise 13, append: the greatest int is refused", () -> refused("bca", ARGUMENT, x -> x.append(MOST)));
        test("promise 13, append: 0 is refused", () -> refused("bca", ARGUMENT, x -> x.append(0)));
        test("promise 13, append: a code that a byte would make right is refused",
                () -> refused("bca", ARGUMENT, x -> x.append(256 + 'a')));
        test("promise 13, append: each code stands in the buffer as it is", () -> {
            for (int code = 33; code <= 126; code++) {
                SignRanks x = of("bca");
                Check.same("append", x.append(code), 1);
                SignRanks empty = of("bca");
                Check.same("the digest of " + code, x.digest(), 31 * (empty.digest() + 1) + code);
            }
        });
    }

    /** Appends to a buffer that is cleared first. */
    private static int appended(SignRanks x, int code) {
        x.clearBuffer();
        return x.append(code);
    }

    private static void appendLengths() {
        test("promise 13, append: it answers the new length, 1 to 60", () -> {
            SignRanks x = of("bca");
            for (int length = 1; length <= 60; length++) {
                Check.same("append", x.append(33 + length), length);
            }
        });
        test("promise 13, append: the 60th character", () -> {
            SignRanks x = typed("c".repeat(59));
            Check.same("append", x.append('d'), 60);
        });
        test("promise 13, append: the 61st character is refused",
                () -> refusedOn(() -> typed(FULL), STATE, x -> x.append('a')));
        test("promise 13, append: the 61st character, and a code of 32: the code comes first",
                () -> refusedOn(() -> typed(FULL), ARGUMENT, x -> x.append(32)));
        test("promise 13, append: the 61st character, and a code of 127: the code comes first",
                () -> refusedOn(() -> typed(FULL), ARGUMENT, x -> x.append(127)));
        test("promise 13, append: to a full buffer that was cleared", () -> {
            SignRanks x = typed(FULL);
            x.clearBuffer();
            Check.same("append", x.append('a'), 1);
        });
        test("promise 13, append: a syntax error is appended too", () -> {
            SignRanks x = typed("22");
            Check.same("append", x.append('~'), 3);
            Check.same("append", x.append('a'), 4);
        });
        test("promise 13, append: it is not undoable", () -> {
            SignRanks x = usedLittle("bca");
            x.append('a');
            Check.same("saved", x.count(13), 3);
            Check.same("gone to", x.count(12), 2);
            x.undo();
            Check.same("the buffer behind undo", x.clearBuffer(), TYPED.length() + 1);
        });
    }

    private static void clearBuffer() {
        test("promise 14, clearBuffer: an empty buffer",
                () -> looksOn(() -> typed(""), 0, x -> x.clearBuffer()));
        test("promise 14, clearBuffer: a buffer of one character", () -> {
            SignRanks x = typed("a");
            Check.same("clearBuffer", x.clearBuffer(), 1);
            Check.same("clearBuffer again", x.clearBuffer(), 0);
        });
        test("promise 14, clearBuffer: a full buffer", () -> {
            SignRanks x = typed(FULL);
            Check.same("clearBuffer", x.clearBuffer(), 60);
            Check.same("clearBuffer again", x.clearBuffer(), 0);
        });
        test("promise 14, clearBuffer: a buffer with syntax errors tells its whole length", () -> {
            SignRanks x = typed("a!bc");
            Check.same("clearBuffer", x.clearBuffer(), 4);
            Check.same("firstError", x.firstError(), 0);
        });
        test("promise 14, clearBuffer: what is typed behind it stands alone", () -> {
            SignRanks x = typed("a9");
            x.clearBuffer();
            type(x, "b2");
            Check.same("firstError", x.firstError(), 2);
            Check.same("read", x.read(), 0);
            shows(x, "bb");
        });
        test("promise 14, clearBuffer: all but the buffer stays", () -> {
            SignRanks x = typed(FULL);
            SignRanks empty = typed("");
            x.clearBuffer();
            Check.holds("another look", looks(x).equals(looks(empty)));
        });
        test("promise 14, clearBuffer: it is not undoable", () -> {
            SignRanks x = usedLittle("bca");
            x.clearBuffer();
            Check.same("saved", x.count(13), 3);
            x.undo();
            Check.same("the buffer behind undo", x.clearBuffer(), 0);
        });
    }

    private static void error(String text, int due) {
        test("promise 15, firstError: of \"" + text + "\"",
                () -> looksOn(() -> typed(text), due, x -> x.firstError()));
    }

    private static void errorLetters() {
        test("promise 15, firstError: of an empty buffer",
                () -> looksOn(() -> typed(""), 0, x -> x.firstError()));
        error("a", 1);
        error("f", 1);
        error("`", 0);
        error("g", 0);
        error("A", 0);
        error("F", 0);
        error("!", 0);
        error("~", 0);
        error("fg", 1);
        error("a`", 1);
        error("abcdef", 6);
        error("aab", 3);
        error("a2a3", 4);
        error("ab!c!", 2);
        error("!a", 0);
        error("ag2", 1);
    }

    private static void errorNumbers() {
        error("2", 0);
        error("9", 0);
        error("1", 0);
        error("2a", 0);
        error("a1", 1);
        error("a0", 1);
        error("a2", 2);
        error("a9", 2);
        error("a:", 1);
        error("a/", 1);
        error("a22", 2);
        error("a23", 2);
        error("a29", 2);
        error("a10", 1);
        error("a2b22", 4);
        error("a2b2c2", 6);
        error("a3b", 3);
        error("ab3", 3);
        error("g2", 0);
    }

    private static void errorMoreThanEleven() {
        error("abcdefabcde", 11);
        error("abcdefabcdef", 11);
        error("aaaaaaaaaaaa", 11);
        error("abcdefabcd2", 11);
        error("abcdefabcd3", 10);
        error("abcdefabcd2f", 11);
        error("abcdefabcde2", 11);
        error("a9b2", 4);
        error("a9b3", 3);
        error("a9b", 3);
        error("a9bc", 4);
        error("a9bcd", 4);
        error("a9bc2", 4);
        error("a9b2c", 4);
        error("a9b22", 4);
        error("a2b9", 4);
        error("a3b9", 3);
        error("a3b8", 4);
        error("a9a9", 3);
        error("ab9c", 4);
        error("ab9c2", 4);
        error("aab9", 4);
        error("aaab9", 4);
        error("aaab8", 5);
        error("a9b!", 3);
        error("a9b2!", 4);
        error("a9b3a", 3);
    }

    private static void errorLengths() {
        test("promise 15, firstError: of a full buffer, the twelfth letter",
                () -> looksOn(() -> typed(FULL), 11, x -> x.firstError()));
        test("promise 15, firstError: of a full buffer, the first character",
                () -> looksOn(() -> typed("~".repeat(60)), 0, x -> x.firstError()));
        test("promise 15, firstError: of a full buffer, the second character",
                () -> looksOn(() -> typed("f".concat("!".repeat(59))), 1, x -> x.firstError()));
        test("promise 15, firstError: it can be asked again, and goes on with what is appended", () -> {
            SignRanks x = typed("a");
            Check.same("firstError", x.firstError(), 1);
            Check.same("firstError again", x.firstError(), 1);
            x.append('9');
            Check.same("firstError", x.firstError(), 2);
            x.append('9');
            Check.same("firstError", x.firstError(), 2);
            x.append('b');
            Check.same("firstError", x.firstError(), 2);
        });
    }

    private static void reads(String text, int rank, String signs) {
        test("promise 16, read: of \"" + text + "\"", () -> {
            SignRanks x = typed(text);
            Check.same("read", x.read(), rank);
            shows(x, signs);
            Check.same("the buffer behind it", x.clearBuffer(), 0);
            Check.same("gone to behind it", x.count(12), 4);
        });
    }

    private static void readTexts() {
        reads("a", 0, "a");
        reads("f", 0, "f");
        reads("a2", 0, "aa");
        reads("f9", 0, "fffffffff");
        reads("a3b", 0, "aaab");
        reads("ba3", 3, "baaa");
        reads("b2a2", 5, "bbaa");
        reads("aab", 0, "aab");
        reads("a2a3", 0, "aaaaa");
        reads("cab", 4, "cab");
        reads("a9b2", 0, "aaaaaaaaabb");
        reads("b2a9", 54, "bbaaaaaaaaa");
        reads("f9f2", 0, "fffffffffff");
        reads("abcdefabcde", 38580, LARGE);
        reads("fe2d2c2b2a2", 1247399, LARGE_LAST);
        reads("a2b2c2d2e2f", 0, LARGE_FIRST);
        reads("abcdefabcd2", 26460, "abcdefabcdd");
        test("promise 16, read: the smooth ones are those of the new signs", () -> {
            SignRanks x = typed("a2b2c");
            Check.same("M before", x.count(4), 6);
            x.read();
            Check.same("M behind", x.count(4), 12);
            Check.same("the smooth rank behind", x.count(5), 0);
        });
    }

    private static void noRead(String text) {
        test("promise 16, read: \"" + text + "\" is refused",
                () -> refusedOn(() -> typed(text), ARGUMENT, x -> x.read()));
    }

    private static void readRefused() {
        test("promise 16, read: an empty buffer is refused",
                () -> refusedOn(() -> typed(""), ARGUMENT, x -> x.read()));
        test("promise 16, read: a full buffer is refused",
                () -> refusedOn(() -> typed(FULL), ARGUMENT, x -> x.read()));
        test("promise 16, read: a buffer that was read is refused", () -> refusedOn(() -> {
            SignRanks x = typed("a2");
            x.read();
            return x;
        }, ARGUMENT, x -> x.read()));
        noRead("2");
        noRead("2a");
        noRead("a1");
        noRead("a0");
        noRead("a22");
        noRead("g");
        noRead("A");
        noRead("`");
        noRead("a!");
        noRead("!a");
        noRead("abcdefabcdef");
        noRead("abcdefabcde2");
        noRead("abcdefabcd3");
        noRead("a9b3");
        noRead("a9b2c");
        noRead("a9b2!");
    }

    private static void readSaves() {
        test("promise 16, read: undoable, but for the buffer", () -> {
            SignRanks x = usedLittle("bca");
            x.clearBuffer();
            long before = x.digest();
            type(x, "a2f");
            x.read();
            Check.same("saved", x.count(13), 4);
            Check.same("gone to", x.count(12), 2);
            Check.same("undo", x.undo(), 3);
            shows(x, "bca");
            Check.same("digest, with an empty buffer", x.digest(), before);
        });
        test("promise 16, read: undoable, also if it changes nothing but the buffer", () -> {
            SignRanks x = usedLittle("bca");
            x.clearBuffer();
            long before = x.digest();
            type(x, "bca");
            Check.same("read", x.read(), 3);
            Check.same("saved", x.count(13), 4);
            Check.same("undo", x.undo(), 3);
            Check.same("digest", x.digest(), before);
        });
        test("promise 16, read: a seventh state drops the oldest one", () -> dropsOldest("bca", x -> {
            x.clearBuffer();
            type(x, "fe");
            return x.read();
        }));
    }

    private static void undoNone() {
        test("promise 17, undo: with no saved state it is refused",
                () -> refusedOn(SignRanks::new, STATE, x -> x.undo()));
        test("promise 17, undo: with no saved state left it is refused", () -> refusedOn(() -> {
            SignRanks x = of("bca");
            x.undo();
            type(x, "a2");
            return x;
        }, STATE, x -> x.undo()));
        test("promise 17, undo: behind calls that save nothing it is refused", () -> refusedOn(() -> {
            SignRanks x = new SignRanks();
            x.append('a');
            x.firstError();
            x.clearBuffer();
            x.append('b');
            x.digest();
            return x;
        }, STATE, x -> x.undo()));
        test("promise 17, undo: one saved state, none is left", () -> {
            SignRanks x = new SignRanks();
            x.next();
            Check.same("undo", x.undo(), 0);
            shows(x, "abc");
            Check.same("digest", x.digest(), new SignRanks().digest());
        });
        test("promise 17, undo: it saves nothing, so a second one goes on back", () -> {
            SignRanks x = new SignRanks();
            x.goTo(1);
            x.goTo(2);
            x.goTo(3);
            Check.same("undo", x.undo(), 2);
            Check.same("undo", x.undo(), 1);
            shows(x, "acb");
        });
    }

    private static SignRanks gone(int times) {
        SignRanks x = new SignRanks();
        for (int time = 0; time < times; time++) {
            x.next();
        }
        return x;
    }

    /** Undoes all, and each state has to be the one before it. */
    private static void unwinds(SignRanks x, int states) {
        int gone = x.count(12);
        for (int left = states - 1; left >= 0; left--) {
            gone--;
            Check.same("undo", x.undo(), left);
            Check.same("saved", x.count(13), left);
            Check.same("gone to", x.count(12), gone);
            Check.same("the rank", x.count(3), gone % 6);
        }
        Check.refused(x, "undo with none left", STATE, x::undo);
    }

    private static void undoSix() {
        test("promise 17, undo: five saved states", () -> unwinds(gone(5), 5));
        test("promise 17, undo: six saved states", () -> unwinds(gone(6), 6));
        test("promise 17, undo: a seventh drops the oldest one", () -> unwinds(gone(7), 6));
        test("promise 17, undo: an eighth drops the two oldest ones", () -> unwinds(gone(8), 6));
        test("promise 17, undo: of thirty the latest six are there", () -> unwinds(gone(30), 6));
        test("promise 17, undo: states that were dropped leave room for others", () -> {
            SignRanks x = gone(6);
            x.undo();
            x.undo();
            x.next();
            x.next();
            Check.same("saved", x.count(13), 6);
            unwinds(x, 6);
        });
        test("promise 17, undo: from six, one undone, and two more: the oldest one is dropped", () -> {
            SignRanks x = gone(6);
            x.undo();
            x.next();
            x.next();
            Check.same("saved", x.count(13), 6);
            unwinds(x, 6);
            Check.same("the oldest one left is that behind the first call", x.count(12), 1);
        });
        test("promise 17, undo: a refused call saves no state", () -> {
            SignRanks x = gone(2);
            Check.refused(x, "goTo(6)", ARGUMENT, () -> x.goTo(6));
            Check.refused(x, "jump(9)", STATE, () -> x.jump(9));
            Check.refused(x, "swap(0, 3)", OUTSIDE, () -> x.swap(0, 3));
            unwinds(x, 2);
        });
        test("promise 17, undo: a refused call with six states drops none", () -> {
            SignRanks x = gone(6);
            Check.refused(x, "goTo(6)", ARGUMENT, () -> x.goTo(6));
            unwinds(x, 6);
        });
    }

    private static void undoBringsBack() {
        test("promise 17, undo: the buffer stays as it is", () -> {
            SignRanks x = gone(2);
            type(x, "a2b");
            x.next();
            type(x, "c");
            x.undo();
            Check.same("firstError", x.firstError(), 4);
            Check.same("read", x.read(), 0);
            shows(x, "aabc");
        });
        test("promise 17, undo: a full buffer stays as it is", () -> {
            SignRanks x = gone(1);
            type(x, FULL);
            x.undo();
            Check.same("clearBuffer", x.clearBuffer(), 60);
        });
        test("promise 17, undo: a buffer that was cleared stays empty", () -> {
            SignRanks x = new SignRanks();
            type(x, "ab");
            x.next();
            x.clearBuffer();
            x.undo();
            Check.same("clearBuffer", x.clearBuffer(), 0);
        });
        test("promise 17, undo: what is counted comes back", () -> {
            SignRanks x = gone(3);
            x.swap(0, 1);
            x.undo();
            Check.same("gone to behind undo of a swap", x.count(12), 3);
            x.undo();
            Check.same("gone to behind undo of a next", x.count(12), 2);
        });
        test("promise 17, undo: other signs, from 1 to 11 and back", () -> {
            SignRanks x = of("f");
            type(x, LARGE);
            x.read();
            Check.same("M", x.count(4), 478080);
            x.undo();
            shows(x, "f");
            Check.same("M", x.count(4), 1);
            x.undo();
            shows(x, "abc");
            Check.same("M", x.count(4), 6);
        });
        test("promise 17, undo: 11 signs, six times", () -> {
            SignRanks x = of(LARGE);
            for (int time = 0; time < 6; time++) {
                x.swap(time, 10 - time);
                x.undo();
                x.swap(time, 10 - time);
            }
            for (int time = 5; time >= 0; time--) {
                Check.same("undo", x.undo(), time);
            }
            shows(x, LARGE);
        });
    }
}
