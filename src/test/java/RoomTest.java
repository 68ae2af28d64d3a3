import com.sun.management.ThreadMXBean;
import java.lang.management.ManagementFactory;

/** The calls make nothing: 512 of the dearest ones leave the room as it is. */
public final class RoomTest {
    private static final int CALLS = 512;
    /** What the measuring itself may take. */
    private static final long FREE_BYTES = 4096;

    private RoomTest() {
    }

    private static long made() {
        return ((ThreadMXBean) ManagementFactory.getThreadMXBean()).getCurrentThreadAllocatedBytes();
    }

    private static long work(SignRanks x) {
        long sum = 0;
        for (int call = 0; call < CALLS / 8; call++) {
            sum += x.digest() + x.next() + x.bestSwap(0) + x.put(0, call % 6) + x.count(4);
            sum += x.take(0) + x.undo() + x.undo();
        }
        return sum;
    }

    public static void main(String[] args) {
        SignRanks x = new SignRanks();
        for (char code : "abcdefabcd".toCharArray()) {
            x.append(code);
        }
        x.read();
        made();
        work(x);
        long before = made();
        work(x);
        long bytes = made() - before;
        Check.holds(CALLS + " calls made " + bytes + " bytes", bytes <= FREE_BYTES);
        long ahead = made();
        new SignRanks();
        long object = made() - ahead;
        Check.holds("an object takes " + object + " bytes", object <= 20000);
        Check.end("RoomTest");
    }
}
