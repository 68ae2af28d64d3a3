/**
 * Arrangements of signs as one number, as ../shared/DOC.md promises it.
 *
 * All rows are made in the constructor and used again: a call makes no object but an exception.
 */
public final class SignRanks {
    public static final int NONE = -1;

    private static final int SIGNS = 6;
    private static final int MOST_PLACES = 11;
    private static final int MOST_CODES = 60;
    private static final int MOST_STATES = 6;
    private static final int MOST_STEPS = 20;
    private static final int FIRST_CODE = 33;
    private static final int LAST_CODE = 126;
    private static final int COUNTS = 14;
    private static final int LOOKS = 3;
    private static final int HASH_START = 2579;
    private static final int HASH_FACTOR = 31;

    private final Row row = new Row();
    private final Row work = new Row();
    private final Row rest = new Row();
    private final Bag bag = new Bag();
    private final SmoothTable smooth = new SmoothTable();
    private final Text text = new Text();
    private final Saves saves = new Saves();
    private int gone;

    public SignRanks() {
        row.add(0);
        row.add(1);
        row.add(2);
    }

    // ---- other arrangements of the same signs

    public int goTo(int rank) throws IllegalArgumentException {
        needRank(rank);
        int before = rankOf(row);
        goToRank(rank);
        return before;
    }

    public int jump(int by) throws IllegalStateException {
        long rank = (long) rankOf(row) + by;
        if (rank < 0 || rank >= all()) {
            throw new IllegalStateException("there is no such rank");
        }
        goToRank((int) rank);
        return (int) rank;
    }

    public int next() {
        int rank = rankOf(row) + 1;
        return goToRank(rank < all() ? rank : 0);
    }

    public int previous() {
        int rank = rankOf(row);
        return goToRank((rank > 0 ? rank : all()) - 1);
    }

    public int nextSmooth() throws IllegalStateException {
        int rank = smoothRank() + (row.isSmooth(row.length()) ? 1 : 0);
        if (rank >= allSmooth()) {
            throw new IllegalStateException("there is no smooth one behind this one");
        }
        layOutSmooth(rank);
        return arrive();
    }

    public int goToSmooth(int rank) throws IllegalArgumentException {
        if (rank < 0 || rank >= allSmooth()) {
            throw new IllegalArgumentException("there is no such smooth rank");
        }
        layOutSmooth(rank);
        return arrive();
    }

    public int swap(int place, int other) throws IndexOutOfBoundsException {
        needPlace(place);
        needPlace(other);
        save();
        row.exchange(place, other);
        return rankOf(row);
    }

    public int turn(int from, int to) throws IndexOutOfBoundsException, IllegalArgumentException {
        needPlace(from);
        needPlace(to);
        need(from <= to);
        save();
        row.reverse(from, to);
        return rankOf(row);
    }

    public int carry(int place, int steps) throws IndexOutOfBoundsException, IllegalArgumentException {
        needPlace(place);
        need(steps >= 0 && steps <= MOST_STEPS);
        save();
        int now = place;
        for (int step = 0; step < steps; step++) {
            now = carryOne(now);
        }
        return now;
    }

    // ---- other signs

    public int put(int place, int sign)
            throws IndexOutOfBoundsException, IllegalArgumentException, IllegalStateException {
        if (place < 0 || place > row.length()) {
            throw new IndexOutOfBoundsException("there is no such place");
        }
        needSign(sign);
        if (row.length() >= MOST_PLACES) {
            throw new IllegalStateException("there are as many signs as there may be");
        }
        save();
        row.insert(place, sign);
        return all();
    }

    public int take(int place) throws IndexOutOfBoundsException, IllegalStateException {
        needPlace(place);
        if (row.length() <= 1) {
            throw new IllegalStateException("it is the only sign");
        }
        save();
        int sign = row.at(place);
        row.remove(place);
        return sign;
    }

    // ---- texts

    public int append(int code) throws IllegalArgumentException, IllegalStateException {
        need(code >= FIRST_CODE && code <= LAST_CODE);
        if (text.length() >= MOST_CODES) {
            throw new IllegalStateException("the buffer is full");
        }
        text.add(code);
        return text.length();
    }

    public int clearBuffer() {
        int before = text.length();
        text.clear();
        return before;
    }

    public int firstError() {
        return text.firstBad();
    }

    public int read() throws IllegalArgumentException {
        if (text.length() == 0 || text.firstBad() < text.length()) {
            throw new IllegalArgumentException("the buffer is not a complete arrangement");
        }
        save();
        text.writeTo(row);
        text.clear();
        return rankOf(row);
    }

    public int undo() throws IllegalStateException {
        if (saves.held() == 0) {
            throw new IllegalStateException("there is no saved state");
        }
        gone = saves.restore(row);
        return saves.held();
    }

    // ---- looks; nothing is changed

    public int sign(int place) throws IndexOutOfBoundsException {
        needPlace(place);
        return row.at(place);
    }

    public int digit(int place) throws IndexOutOfBoundsException {
        needPlace(place);
        bag.fill(row, place);
        return bag.unlikeBelow(row.at(place));
    }

    public int many(int sign) throws IllegalArgumentException {
        needSign(sign);
        bag.fill(row, 0);
        return bag.of(sign);
    }

    public int block(int k, int what) throws IllegalArgumentException {
        need(k >= 0 && k <= row.length() && what >= 0 && what < LOOKS);
        switch (what) {
            case 0:
                return lowestRank(row, k);
            case 1:
                return blockSize(k);
            default:
                return smoothInBlock(k);
        }
    }

    public int count(int what) throws IllegalArgumentException {
        need(what >= 0 && what < COUNTS);
        switch (what) {
            case 0:
                return row.length();
            case 1:
                return unlikeSigns();
            case 2:
                return all();
            case 3:
                return rankOf(row);
            case 4:
                return allSmooth();
            case 5:
                return smoothRank();
            case 6:
                return row.isSmooth(row.length()) ? 1 : 0;
            case 7:
                return row.inversions();
            case 8:
                return row.descents();
            case 9:
                return row.majorIndex();
            case 10:
                return rankTurnedAround();
            case 11:
                return rankBySecondWay();
            case 12:
                return gone;
            default:
                return saves.held();
        }
    }

    // ---- what would be; nothing is changed

    public int ifSwapped(int place, int other) throws IndexOutOfBoundsException {
        needPlace(place);
        needPlace(other);
        return rankIfExchanged(place, other);
    }

    public int signOf(int rank, int place) throws IndexOutOfBoundsException, IllegalArgumentException {
        needPlace(place);
        needRank(rank);
        layOut(rank);
        return work.at(place);
    }

    public int having(int from, int to, int place, int sign)
            throws IndexOutOfBoundsException, IllegalArgumentException {
        needPlace(place);
        need(from >= 0 && from <= to && to <= all());
        needSign(sign);
        return havingBelow(to, place, sign) - havingBelow(from, place, sign);
    }

    public int stepsTo(int rank) throws IllegalArgumentException {
        needRank(rank);
        layOut(rank);
        rest.become(row);
        int steps = 0;
        for (int place = 0; place < work.length(); place++) {
            int found = rest.find(work.at(place), place);
            rest.bringAhead(found, place);
            steps += found - place;
        }
        return steps;
    }

    public int bestSwap(int what) throws IllegalArgumentException {
        need(what >= 0 && what < LOOKS);
        int best = NONE;
        int lower = NONE;
        int greater = NONE;
        for (int place = 0; place < row.length(); place++) {
            for (int other = place + 1; other < row.length(); other++) {
                int rank = rankIfExchanged(place, other);
                if (rank > best) {
                    best = rank;
                    lower = place;
                    greater = other;
                }
            }
        }
        return what == 0 ? best : what == 1 ? lower : greater;
    }

    public double share() {
        int size = all();
        return size > 0 ? (double) rankOf(row) / size : 0.0;
    }

    public long digest() {
        long hash = HASH_START;
        for (int what = 0; what < COUNTS; what++) {
            hash = mixed(hash, count(what));
        }
        int rank = rankOf(row);
        for (int place = 0; place < row.length(); place++) {
            hash = mixed(hash, sign(place));
            hash = mixed(hash, digit(place));
            for (int what = 0; what < LOOKS; what++) {
                hash = mixed(hash, block(place, what));
            }
            hash = mixed(hash, ifSwapped(place, 0));
            hash = mixed(hash, having(0, rank, place, 0));
        }
        for (int sign = 0; sign < SIGNS; sign++) {
            hash = mixed(hash, many(sign));
        }
        int middle = all() / 2;
        for (int place = 0; place < row.length(); place++) {
            hash = mixed(hash, signOf(middle, place));
        }
        hash = mixed(hash, stepsTo(middle));
        for (int what = 0; what < LOOKS; what++) {
            hash = mixed(hash, bestSwap(what));
        }
        hash = mixed(hash, bitsOf(share()));
        hash = mixed(hash, text.length());
        for (int index = 0; index < text.length(); index++) {
            hash = mixed(hash, text.at(index));
        }
        return hash;
    }

    // ---- arguments

    private static void need(boolean held) {
        if (!held) {
            throw new IllegalArgumentException("an argument is out of range");
        }
    }

    private void needPlace(int place) {
        if (!row.has(place)) {
            throw new IndexOutOfBoundsException("there is no such place");
        }
    }

    private static void needSign(int sign) {
        need(sign >= 0 && sign < SIGNS);
    }

    private void needRank(int rank) {
        need(rank >= 0 && rank < all());
    }

    // ---- going and saving

    private void save() {
        saves.keep(row, gone);
    }

    /** Answers how many places change: they are counted before the row is overwritten. */
    private int goToRank(int rank) {
        layOut(rank);
        int changed = row.placesUnlike(work);
        arrive();
        return changed;
    }

    /** Takes what the work row holds; until here a call that throws has changed nothing that can be seen. */
    private int arrive() {
        save();
        row.become(work);
        gone++;
        return rankOf(row);
    }

    private int carryOne(int place) {
        if (place < row.length() - 1) {
            row.exchange(place, place + 1);
            return place + 1;
        }
        row.roll();
        return 0;
    }

    // ---- ranks

    private int all() {
        return blockSize(0);
    }

    private int unlikeSigns() {
        bag.fill(row, 0);
        return bag.unlikeBelow(SIGNS);
    }

    private int blockSize(int k) {
        bag.fill(row, k);
        return bag.ways();
    }

    private int rankOf(Row some) {
        return lowestRank(some, some.length());
    }

    /** At each of the first k places, those of the block with a lesser sign there lie before. */
    private int lowestRank(Row some, int k) {
        bag.fill(some, 0);
        int size = bag.ways();
        int rank = 0;
        for (int place = 0; place < k; place++) {
            int sign = some.at(place);
            rank += part(size, bag.below(sign), bag.total());
            size = part(size, bag.of(sign), bag.total());
            bag.drop(sign);
        }
        return rank;
    }

    private int rankBySecondWay() {
        int sum = 0;
        for (int place = 0; place < row.length(); place++) {
            bag.fill(row, place);
            for (int sign = 0; sign < row.at(place); sign++) {
                sum += bag.waysBehind(sign);
            }
        }
        return sum;
    }

    private int rankTurnedAround() {
        work.become(row);
        work.reverse(0, work.length() - 1);
        return rankOf(work);
    }

    private int rankIfExchanged(int place, int other) {
        work.become(row);
        work.exchange(place, other);
        return rankOf(work);
    }

    /** Lays out in the work row, so that looks can use it too; the rank is one that there is. */
    private void layOut(int rank) {
        work.clear();
        bag.fill(row, 0);
        int size = bag.ways();
        int ahead = rank;
        for (int place = 0; place < row.length(); place++) {
            int sign = 0;
            int these = part(size, bag.of(sign), bag.total());
            while (sign < SIGNS - 1 && ahead >= these) {
                ahead -= these;
                sign++;
                these = part(size, bag.of(sign), bag.total());
            }
            size = these;
            work.add(sign);
            bag.drop(sign);
        }
    }

    /** Each single sign begins equally many of the arrangements, so the division comes out even. */
    private static int part(int size, int some, int all) {
        return all > 0 ? size * some / all : 0;
    }

    /** A range is what lies below its end, less what lies below its beginning. */
    private int havingBelow(int rank, int place, int sign) {
        bag.fill(row, 0);
        int size = bag.ways();
        if (rank >= size) {
            return part(size, bag.of(sign), bag.total());
        }
        layOut(rank);
        int sum = 0;
        for (int depth = 0; depth < work.length(); depth++) {
            for (int less = 0; less < work.at(depth); less++) {
                sum += havingBehind(depth, less, place, sign);
            }
        }
        return sum;
    }

    /**
     * Of those that begin as the work row does up to a depth and have the sign less there, answers
     * how many have the wanted sign at the place.
     */
    private int havingBehind(int depth, int less, int place, int wanted) {
        bag.fill(work, depth);
        int ways = bag.waysBehind(less);
        if (place > depth) {
            bag.drop(less);
            return part(ways, bag.of(wanted), bag.total());
        }
        int there = place < depth ? work.at(place) : less;
        return there == wanted ? ways : 0;
    }

    // ---- smooth ones

    private int allSmooth() {
        return smoothInBlock(0);
    }

    private int smoothInBlock(int k) {
        if (!row.isSmooth(k)) {
            return 0;
        }
        prepareSmooth();
        bag.fill(row, k);
        return smooth.behind(bag, k > 0 ? row.at(k - 1) : NONE);
    }

    private int smoothRank() {
        prepareSmooth();
        int rank = 0;
        int last = NONE;
        for (int place = 0; place < row.length(); place++) {
            int sign = row.at(place);
            for (int less = 0; less < sign; less++) {
                rank += less == last ? 0 : smooth.startingWith(bag, less);
            }
            if (sign == last) {
                return rank;
            }
            bag.drop(sign);
            last = sign;
        }
        return rank;
    }

    /** As layOut, among the smooth ones; a sign like the one before it begins none of them. */
    private void layOutSmooth(int rank) {
        prepareSmooth();
        work.clear();
        int ahead = rank;
        int last = NONE;
        for (int place = 0; place < row.length(); place++) {
            int sign = 0;
            int these = last == sign ? 0 : smooth.startingWith(bag, sign);
            while (sign < SIGNS - 1 && ahead >= these) {
                ahead -= these;
                sign++;
                these = last == sign ? 0 : smooth.startingWith(bag, sign);
            }
            work.add(sign);
            bag.drop(sign);
            last = sign;
        }
    }

    /** The signs may be others since the table was made, so this goes ahead of each use of it. */
    private void prepareSmooth() {
        bag.fill(row, 0);
        smooth.prepare(bag);
    }

    // ---- the hash

    private static long mixed(long hash, long value) {
        return HASH_FACTOR * hash + value;
    }

    /** Answers the bits of a double from 0 to below 1, as Double.doubleToLongBits, which the rules leave out. */
    private static long bitsOf(double value) {
        if (value <= 0.0) {
            return 0L;
        }
        double scaled = value;
        int exponent = 1023;
        while (scaled < 1.0 && exponent > 1) {
            scaled = scaled * 2.0;
            exponent--;
        }
        long fraction = (long) ((scaled - 1.0) * 4503599627370496.0);
        return ((long) exponent << 52) + fraction;
    }

    /** A row of at most 11 signs. A place that it doesn't have reads as the sign 0 and can't be written. */
    private static final class Row {
        private final int[] signs = new int[MOST_PLACES];
        private int length;

        int length() {
            return length;
        }

        boolean has(int place) {
            return place >= 0 && place < length && place < MOST_PLACES;
        }

        int at(int place) {
            return place >= 0 && place < length && place < MOST_PLACES ? signs[place] : 0;
        }

        private void set(int place, int sign) {
            if (place >= 0 && place < length && place < MOST_PLACES) {
                signs[place] = sign;
            }
        }

        void clear() {
            length = 0;
        }

        void add(int sign) {
            if (length < MOST_PLACES) {
                length++;
                set(length - 1, sign);
            }
        }

        void insert(int place, int sign) {
            add(sign);
            bringAhead(length - 1, place);
        }

        void remove(int place) {
            for (int now = place; now < length - 1; now++) {
                set(now, at(now + 1));
            }
            if (has(place)) {
                length--;
            }
        }

        void become(Row other) {
            length = 0;
            for (int place = 0; place < other.length; place++) {
                add(other.at(place));
            }
        }

        void exchange(int place, int other) {
            int sign = at(place);
            set(place, at(other));
            set(other, sign);
        }

        void reverse(int from, int to) {
            int right = to;
            for (int left = from; left < right; left++) {
                exchange(left, right);
                right--;
            }
        }

        void roll() {
            bringAhead(length - 1, 0);
        }

        /** Exchanges neighbors only, so the others keep their order. */
        void bringAhead(int from, int to) {
            for (int place = from; place > to; place--) {
                exchange(place, place - 1);
            }
        }

        /** Finds the first place with a sign, from a place on; that place itself if there is none. */
        int find(int sign, int from) {
            for (int place = from; place < length; place++) {
                if (at(place) == sign) {
                    return place;
                }
            }
            return from;
        }

        int placesUnlike(Row other) {
            int unlike = 0;
            for (int place = 0; place < length; place++) {
                unlike += at(place) == other.at(place) ? 0 : 1;
            }
            return unlike;
        }

        /** Tells if no two neighbors of the first k signs are alike. */
        boolean isSmooth(int k) {
            for (int place = 1; place < k; place++) {
                if (at(place) == at(place - 1)) {
                    return false;
                }
            }
            return true;
        }

        int inversions() {
            int pairs = 0;
            for (int place = 0; place < length; place++) {
                for (int other = place + 1; other < length; other++) {
                    pairs += at(place) > at(other) ? 1 : 0;
                }
            }
            return pairs;
        }

        private boolean fallsBehind(int place) {
            return place < length - 1 && at(place) > at(place + 1);
        }

        int descents() {
            int places = 0;
            for (int place = 0; place < length; place++) {
                places += fallsBehind(place) ? 1 : 0;
            }
            return places;
        }

        int majorIndex() {
            int sum = 0;
            for (int place = 0; place < length; place++) {
                sum += fallsBehind(place) ? place + 1 : 0;
            }
            return sum;
        }
    }

    /** How often each sign is left, in no order. */
    private static final class Bag {
        private static final int[] FACTORIALS = {
            1, 1, 2, 6, 24, 120, 720, 5040, 40320, 362880, 3628800, 39916800
        };

        private final int[] often = new int[SIGNS];
        private int total;

        int total() {
            return total;
        }

        int of(int sign) {
            return sign >= 0 && sign < SIGNS ? often[sign] : 0;
        }

        private void add(int sign) {
            if (sign >= 0 && sign < SIGNS) {
                often[sign]++;
                total++;
            }
        }

        void drop(int sign) {
            if (sign >= 0 && sign < SIGNS && often[sign] > 0) {
                often[sign]--;
                total--;
            }
        }

        void fill(Row row, int from) {
            total = 0;
            for (int sign = 0; sign < SIGNS; sign++) {
                often[sign] = 0;
            }
            for (int place = from; place < row.length(); place++) {
                add(row.at(place));
            }
        }

        int below(int sign) {
            int sum = 0;
            for (int less = 0; less < sign; less++) {
                sum += of(less);
            }
            return sum;
        }

        int unlikeBelow(int sign) {
            int unlike = 0;
            for (int less = 0; less < sign; less++) {
                unlike += of(less) > 0 ? 1 : 0;
            }
            return unlike;
        }

        /** The number of arrangements: like signs can be exchanged among themselves without a new one. */
        int ways() {
            int ways = factorial(total);
            for (int sign = 0; sign < SIGNS; sign++) {
                int alike = factorial(often[sign]);
                ways = alike > 0 ? ways / alike : 0;
            }
            return ways;
        }

        /** Takes the sign out and puts it back: the second way reckons each unlike sign by itself. */
        int waysBehind(int sign) {
            if (of(sign) == 0) {
                return 0;
            }
            drop(sign);
            int ways = ways();
            add(sign);
            return ways;
        }

        private static int factorial(int number) {
            return number >= 0 && number < FACTORIALS.length ? FACTORIALS[number] : 0;
        }
    }

    /**
     * The numbers of the smooth arrangements of all bags within one bag. Such a bag has its cell:
     * its numbers are the digits of the cell's index, each in the base of one more than the most.
     */
    private static final class SmoothTable {
        // 11 signs have the most bags within them as 2, 2, 2, 2, 2 and 1: 3 * 3 * 3 * 3 * 3 * 2
        private static final int CELLS = 486;

        private final int[] madeFor = new int[SIGNS];
        private final int[] weight = new int[SIGNS];
        private final int[] inCell = new int[SIGNS];
        private final int[] all = new int[CELLS];
        private final int[] starting = new int[CELLS * SIGNS];

        /** Most calls ask for the same bag again: then the table stands. */
        void prepare(Bag bag) {
            boolean same = true;
            for (int sign = 0; sign < SIGNS; sign++) {
                same = same && madeFor[sign] == bag.of(sign);
                madeFor[sign] = bag.of(sign);
                inCell[sign] = 0;
            }
            if (same) {
                return;
            }
            int cells = weigh();
            for (int cell = 0; cell < cells && cell < CELLS; cell++) {
                fillCell(cell);
                goOn();
            }
        }

        /** Answers how many cells there are: the weight that one more digit would have. */
        private int weigh() {
            int cells = 1;
            for (int sign = 0; sign < SIGNS; sign++) {
                weight[sign] = cells;
                cells = cells * (madeFor[sign] + 1);
            }
            return cells;
        }

        /** Counts inCell on by one in its mixed base, as the cell's index goes on by one. */
        private void goOn() {
            int sign = 0;
            while (sign < SIGNS - 1 && inCell[sign] >= madeFor[sign]) {
                inCell[sign] = 0;
                sign++;
            }
            inCell[sign]++;
        }

        /** Those that begin with a sign: all of the bag without it, but for those that begin with it again. */
        private void fillCell(int cell) {
            int sum = cell == 0 ? 1 : 0;
            for (int sign = 0; sign < SIGNS; sign++) {
                int without = cell - weight[sign];
                int these = inCell[sign] > 0 ? allOf(without) - startingOf(without, sign) : 0;
                starting[cell * SIGNS + sign] = these;
                sum += these;
            }
            all[cell] = sum;
        }

        private int allOf(int cell) {
            return cell >= 0 && cell < CELLS ? all[cell] : 0;
        }

        private int startingOf(int cell, int sign) {
            boolean held = cell >= 0 && cell < CELLS && sign >= 0 && sign < SIGNS;
            return held ? starting[cell * SIGNS + sign] : 0;
        }

        private int cellOf(Bag bag) {
            int cell = 0;
            for (int sign = 0; sign < SIGNS; sign++) {
                cell += bag.of(sign) * weight[sign];
            }
            return cell;
        }

        int startingWith(Bag bag, int sign) {
            return startingOf(cellOf(bag), sign);
        }

        /** Those of a bag that may stand behind a sign; NONE, ahead of the place 0, rules none out. */
        int behind(Bag bag, int last) {
            int cell = cellOf(bag);
            return allOf(cell) - startingOf(cell, last);
        }
    }

    /** The buffer: an arrangement as a text, perhaps with errors. */
    private static final class Text {
        private final int[] codes = new int[MOST_CODES];
        private int length;

        int length() {
            return length;
        }

        int at(int index) {
            return index >= 0 && index < length && index < MOST_CODES ? codes[index] : 0;
        }

        void add(int code) {
            if (length >= 0 && length < MOST_CODES) {
                codes[length] = code;
                length++;
            }
        }

        void clear() {
            length = 0;
        }

        private boolean isLetter(int index) {
            return at(index) >= 'a' && at(index) <= 'f';
        }

        /** Answers how many more signs there are by a character; 0 if it can't stand behind the one before it. */
        private int adds(int index) {
            if (isLetter(index)) {
                return 1;
            }
            boolean number = at(index) >= '2' && at(index) <= '9';
            return number && isLetter(index - 1) ? at(index) - '1' : 0;
        }

        int firstBad() {
            int signs = 0;
            for (int index = 0; index < length; index++) {
                int more = adds(index);
                signs += more;
                if (more == 0 || signs > MOST_PLACES) {
                    return index;
                }
            }
            return length;
        }

        void writeTo(Row row) {
            row.clear();
            for (int index = 0; index < length; index++) {
                int letter = isLetter(index) ? at(index) : at(index - 1);
                int more = adds(index);
                for (int times = 0; times < more; times++) {
                    row.add(letter - 'a');
                }
            }
        }
    }

    /** The saved states, the oldest one first, each in a slot: what is counted, n, and the signs. */
    private static final class Saves {
        private static final int SLOT = MOST_PLACES + 2;

        private final int[] slots = new int[MOST_STATES * SLOT];
        private int held;

        int held() {
            return held;
        }

        private int slot(int index) {
            return index >= 0 && index < slots.length ? slots[index] : 0;
        }

        private void setSlot(int index, int value) {
            if (index >= 0 && index < slots.length) {
                slots[index] = value;
            }
        }

        void keep(Row row, int gone) {
            if (held >= MOST_STATES) {
                dropOldest();
            }
            int start = held * SLOT;
            setSlot(start, gone);
            setSlot(start + 1, row.length());
            for (int place = 0; place < row.length(); place++) {
                setSlot(start + 2 + place, row.at(place));
            }
            held++;
        }

        private void dropOldest() {
            for (int index = SLOT; index < slots.length; index++) {
                setSlot(index - SLOT, slot(index));
            }
            held--;
        }

        /** Fills the row, and answers what else a state holds: the arrangements gone to. */
        int restore(Row row) {
            if (held > 0) {
                held--;
            }
            int start = held * SLOT;
            int length = slot(start + 1);
            row.clear();
            for (int place = 0; place < length && place < MOST_PLACES; place++) {
                row.add(slot(start + 2 + place));
            }
            return slot(start);
        }
    }
}
