import com.sun.management.ThreadMXBean;
import java.lang.management.ManagementFactory;

/** The calls make nothing: all that an object is promised for, the dearest ones, leave the room as it is. */
public final class RoomTest {
    private static final int CALLS = 512;
    private static final String SIGNS = "abcdefabcd";
    /** What the measuring itself may take. */
    private static final long FREE_BYTES = 4096;
    /** Some 4000 fields and elements; a run has 7.3 million of them. */
    private static final long OBJECT_BYTES = 20000;

    private RoomTest() {
    }

    private static long made() {
        return ((ThreadMXBean) ManagementFactory.getThreadMXBean()).getCurrentThreadAllocatedBytes();
    }

    private static SignRanks object() {
        SignRanks x = new SignRanks();
        for (char code : SIGNS.toCharArray()) {
            x.append(code);
        }
        x.read();
        return x;
    }

    /** Eight calls a round, as many rounds as are left of the object's calls. */
    private static long work(SignRanks x) {
        long sum = 0;
        int rounds = (CALLS - SIGNS.length() - 1) / 8;
        for (int round = 0; round < rounds; round++) {
            sum += x.digest() + x.next() + x.bestSwap(0) + x.put(0, round % 6) + x.count(4);
            sum += x.take(0) + x.undo() + x.undo();
        }
        return sum;
    }

    public static void main(String[] args) {
        made();
        work(object());
        SignRanks x = object();
        long before = made();
        work(x);
        long bytes = made() - before;
        Check.holds(CALLS + " calls made " + bytes + " bytes", bytes <= FREE_BYTES);
        long ahead = made();
        new SignRanks();
        long object = made() - ahead;
        Check.holds("an object takes " + object + " bytes", object <= OBJECT_BYTES);
        Check.end("RoomTest");
    }
}
