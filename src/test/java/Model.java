import java.util.ArrayDeque;
import java.util.ArrayList;
import java.util.Arrays;
import java.util.Deque;
import java.util.HashMap;
import java.util.List;
import java.util.Map;
import java.util.TreeSet;

/**
 * The document again, by its definitions: all arrangements of the same signs are written down in
 * their order, and looked up and counted one by one. It shares no formula with SignRanks.
 */
public final class Model {
    private record State(String row, int gone) {
    }

    private static final Map<String, List<String>> ORDERS = new HashMap<>();
    private static final Map<String, int[]> SMOOTH_BEFORE = new HashMap<>();

    private final Deque<State> saved = new ArrayDeque<>();
    private String row = "abc";
    private int gone = 0;
    private String buffer = "";

    public int goTo(int rank) {
        needRank(rank);
        int before = rank();
        go(order().get(rank));
        return before;
    }

    public int jump(int by) {
        long rank = (long) rank() + by;
        if (rank < 0 || rank >= order().size()) {
            throw new IllegalStateException();
        }
        go(order().get((int) rank));
        return rank();
    }

    public int next() {
        return goBeside(1);
    }

    public int previous() {
        return goBeside(order().size() - 1);
    }

    private int goBeside(int by) {
        String before = row;
        go(order().get((rank() + by) % order().size()));
        int unlike = 0;
        for (int p = 0; p < before.length(); p++) {
            unlike += before.charAt(p) != row.charAt(p) ? 1 : 0;
        }
        return unlike;
    }

    public int nextSmooth() {
        List<String> order = order();
        for (int r = rank() + 1; r < order.size(); r++) {
            if (isSmooth(order.get(r))) {
                go(order.get(r));
                return r;
            }
        }
        throw new IllegalStateException();
    }

    public int goToSmooth(int rank) {
        if (rank < 0 || rank >= smoothBefore(order().size())) {
            throw new IllegalArgumentException();
        }
        List<String> order = order();
        int[] before = SMOOTH_BEFORE.get(sorted());
        int r = 0;
        while (!(isSmooth(order.get(r)) && before[r] == rank)) {
            r++;
        }
        go(order.get(r));
        return r;
    }

    public int swap(int place, int other) {
        needPlace(place);
        needPlace(other);
        change(exchanged(place, other));
        return rank();
    }

    public int turn(int from, int to) {
        needPlace(from);
        needPlace(to);
        need(from <= to);
        String turned = new StringBuilder(row.substring(from, to + 1)).reverse().toString();
        change(row.substring(0, from) + turned + row.substring(to + 1));
        return rank();
    }

    public int carry(int place, int steps) {
        needPlace(place);
        need(steps >= 0 && steps <= 20);
        change(row);
        int now = place;
        for (int i = 0; i < steps; i++) {
            if (now == row.length() - 1) {
                row = row.charAt(now) + row.substring(0, now);
                now = 0;
            } else {
                row = exchanged(now, now + 1);
                now++;
            }
        }
        return now;
    }

    public int put(int place, int sign) {
        if (place < 0 || place > row.length()) {
            throw new IndexOutOfBoundsException();
        }
        need(sign >= 0 && sign <= 5);
        if (row.length() == 11) {
            throw new IllegalStateException();
        }
        change(row.substring(0, place) + (char) ('a' + sign) + row.substring(place));
        return order().size();
    }

    public int take(int place) {
        needPlace(place);
        if (row.length() == 1) {
            throw new IllegalStateException();
        }
        int sign = row.charAt(place) - 'a';
        change(row.substring(0, place) + row.substring(place + 1));
        return sign;
    }

    public int append(int code) {
        need(code >= 33 && code <= 126);
        if (buffer.length() == 60) {
            throw new IllegalStateException();
        }
        buffer += (char) code;
        return buffer.length();
    }

    public int clearBuffer() {
        int length = buffer.length();
        buffer = "";
        return length;
    }

    public int firstError() {
        int good = 0;
        while (good < buffer.length() && spelled(buffer.substring(0, good + 1)) != null) {
            good++;
        }
        return good;
    }

    public int read() {
        String spelled = spelled(buffer);
        if (spelled == null || spelled.isEmpty()) {
            throw new IllegalArgumentException();
        }
        change(spelled);
        buffer = "";
        return rank();
    }

    public int undo() {
        if (saved.isEmpty()) {
            throw new IllegalStateException();
        }
        State state = saved.removeLast();
        row = state.row();
        gone = state.gone();
        return saved.size();
    }

    public int sign(int place) {
        needPlace(place);
        return row.charAt(place) - 'a';
    }

    public int digit(int place) {
        needPlace(place);
        TreeSet<Character> less = new TreeSet<>();
        for (int p = place; p < row.length(); p++) {
            less.add(row.charAt(p));
        }
        return less.headSet(row.charAt(place)).size();
    }

    public int many(int sign) {
        need(sign >= 0 && sign <= 5);
        return (int) row.chars().filter(c -> c == 'a' + sign).count();
    }

    public int block(int k, int what) {
        need(k >= 0 && k <= row.length() && what >= 0 && what <= 2);
        List<String> order = order();
        String beginning = row.substring(0, k);
        int lowest = -1;
        int size = 0;
        for (int r = 0; r < order.size(); r++) {
            if (order.get(r).startsWith(beginning)) {
                lowest = lowest < 0 ? r : lowest;
                size++;
            }
        }
        int smooth = smoothBefore(lowest + size) - smoothBefore(lowest);
        return new int[] {lowest, size, smooth}[what];
    }

    public int count(int what) {
        need(what >= 0 && what <= 13);
        return switch (what) {
            case 0 -> row.length();
            case 1 -> (int) row.chars().distinct().count();
            case 2 -> order().size();
            case 3, 11 -> rank();
            case 4 -> smoothBefore(order().size());
            case 5 -> smoothBefore(rank());
            case 6 -> isSmooth(row) ? 1 : 0;
            case 7 -> inversions();
            case 8 -> descents().size();
            case 9 -> descents().stream().mapToInt(p -> p + 1).sum();
            case 10 -> rankOf(new StringBuilder(row).reverse().toString());
            case 12 -> gone;
            default -> saved.size();
        };
    }

    public int ifSwapped(int place, int other) {
        needPlace(place);
        needPlace(other);
        return rankOf(exchanged(place, other));
    }

    public int signOf(int rank, int place) {
        needPlace(place);
        needRank(rank);
        return order().get(rank).charAt(place) - 'a';
    }

    public int having(int from, int to, int place, int sign) {
        needPlace(place);
        List<String> order = order();
        need(from >= 0 && from <= to && to <= order.size() && sign >= 0 && sign <= 5);
        int sum = 0;
        for (int r = from; r < to; r++) {
            sum += order.get(r).charAt(place) == 'a' + sign ? 1 : 0;
        }
        return sum;
    }

    /** Like signs never pass one another: each pair of signs whose goals stand the other way round costs one. */
    public int stepsTo(int rank) {
        needRank(rank);
        String goal = order().get(rank);
        int[] goals = new int[row.length()];
        boolean[] used = new boolean[row.length()];
        for (int p = 0; p < row.length(); p++) {
            int g = 0;
            while (used[g] || goal.charAt(g) != row.charAt(p)) {
                g++;
            }
            used[g] = true;
            goals[p] = g;
        }
        int steps = 0;
        for (int p = 0; p < goals.length; p++) {
            for (int q = p + 1; q < goals.length; q++) {
                steps += goals[p] > goals[q] ? 1 : 0;
            }
        }
        return steps;
    }

    public int bestSwap(int what) {
        need(what >= 0 && what <= 2);
        int[] best = {-1, -1, -1};
        for (int q = row.length() - 1; q >= 0; q--) {
            for (int p = q - 1; p >= 0; p--) {
                int[] now = {rankOf(exchanged(p, q)), p, q};
                boolean better = now[0] != best[0] ? now[0] > best[0]
                        : now[1] != best[1] ? now[1] < best[1] : now[2] < best[2];
                best = better ? now : best;
            }
        }
        return best[what];
    }

    public double share() {
        return (double) rank() / order().size();
    }

    public long digest() {
        List<Long> values = new ArrayList<>();
        for (int what = 0; what <= 13; what++) {
            values.add((long) count(what));
        }
        for (int p = 0; p < row.length(); p++) {
            values.addAll(List.of((long) sign(p), (long) digit(p)));
            values.addAll(List.of((long) block(p, 0), (long) block(p, 1), (long) block(p, 2)));
            values.addAll(List.of((long) ifSwapped(p, 0), (long) having(0, rank(), p, 0)));
        }
        for (int s = 0; s <= 5; s++) {
            values.add((long) many(s));
        }
        for (int p = 0; p < row.length(); p++) {
            values.add((long) signOf(order().size() / 2, p));
        }
        values.add((long) stepsTo(order().size() / 2));
        values.addAll(List.of((long) bestSwap(0), (long) bestSwap(1), (long) bestSwap(2)));
        values.add(Double.doubleToLongBits(share()));
        values.add((long) buffer.length());
        buffer.chars().forEach(c -> values.add((long) c));
        long hash = 2579;
        for (long value : values) {
            hash = 31 * hash + value;
        }
        return hash;
    }

    /** How many arrangements there are, for tests that choose ranks. */
    int size() {
        return order().size();
    }

    int places() {
        return row.length();
    }

    static void forget() {
        ORDERS.clear();
        SMOOTH_BEFORE.clear();
    }

    private void go(String there) {
        change(there);
        gone++;
    }

    private void change(String there) {
        saved.addLast(new State(row, gone));
        if (saved.size() > 6) {
            saved.removeFirst();
        }
        row = there;
    }

    private String exchanged(int place, int other) {
        StringBuilder text = new StringBuilder(row);
        text.setCharAt(place, row.charAt(other));
        text.setCharAt(other, row.charAt(place));
        return text.toString();
    }

    private static boolean isSmooth(String some) {
        for (int p = 1; p < some.length(); p++) {
            if (some.charAt(p) == some.charAt(p - 1)) {
                return false;
            }
        }
        return true;
    }

    private int inversions() {
        int pairs = 0;
        for (int q = 0; q < row.length(); q++) {
            for (int p = 0; p < q; p++) {
                pairs += row.charAt(p) > row.charAt(q) ? 1 : 0;
            }
        }
        return pairs;
    }

    private List<Integer> descents() {
        List<Integer> places = new ArrayList<>();
        for (int p = 0; p + 1 < row.length(); p++) {
            if (row.charAt(p) > row.charAt(p + 1)) {
                places.add(p);
            }
        }
        return places;
    }

    /** The signs that a beginning of a text tells; null if no arrangement as a text begins so. */
    private static String spelled(String text) {
        if (!text.matches("([a-f][2-9]?)*")) {
            return null;
        }
        StringBuilder signs = new StringBuilder();
        for (int i = 0; i < text.length(); i++) {
            char c = text.charAt(i);
            int times = Character.isDigit(c) ? c - '0' - 1 : 1;
            char letter = Character.isDigit(c) ? text.charAt(i - 1) : c;
            signs.append(String.valueOf(letter).repeat(times));
        }
        return signs.length() > 11 ? null : signs.toString();
    }

    private int rank() {
        return rankOf(row);
    }

    private int rankOf(String some) {
        return java.util.Collections.binarySearch(order(), some);
    }

    private int smoothBefore(int rank) {
        return SMOOTH_BEFORE.get(sorted())[rank];
    }

    private String sorted() {
        char[] signs = row.toCharArray();
        Arrays.sort(signs);
        return new String(signs);
    }

    /** All arrangements of the same signs, in their order. */
    private List<String> order() {
        String signs = sorted();
        List<String> order = ORDERS.get(signs);
        if (order == null) {
            order = new ArrayList<>();
            write("", signs, order);
            int[] before = new int[order.size() + 1];
            for (int r = 0; r < order.size(); r++) {
                before[r + 1] = before[r] + (isSmooth(order.get(r)) ? 1 : 0);
            }
            ORDERS.put(signs, order);
            SMOOTH_BEFORE.put(signs, before);
        }
        return order;
    }

    private static void write(String beginning, String left, List<String> into) {
        if (left.isEmpty()) {
            into.add(beginning);
        }
        for (int i = 0; i < left.length(); i++) {
            if (i == 0 || left.charAt(i) != left.charAt(i - 1)) {
                write(beginning + left.charAt(i), left.substring(0, i) + left.substring(i + 1), into);
            }
        }
    }

    private static void need(boolean held) {
        if (!held) {
            throw new IllegalArgumentException();
        }
    }

    private void needPlace(int place) {
        if (place < 0 || place >= row.length()) {
            throw new IndexOutOfBoundsException();
        }
    }

    private void needRank(int rank) {
        need(rank >= 0 && rank < order().size());
    }
}
