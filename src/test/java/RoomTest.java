import java.lang.management.ManagementFactory;

/** A run of the dearest calls makes little: all that a run makes stays in one room. */
public final class RoomTest {
    private static final Due DUE = new Due("RoomTest");
    private static final long MOST_BYTES = 400_000;

    private RoomTest() {
    }

    public static void main(String[] args) {
        run();
        long before = allocated();
        long answers = run();
        long made = allocated() - before;
        DUE.holds("the calls answered", answers != 0);
        DUE.holds("bytes made by 512 calls, " + made + ", are at most " + MOST_BYTES, made <= MOST_BYTES);
        before = allocated();
        for (int k = 0; k < 512; k++) {
            answers += new RoadColours().many(0);
        }
        made = allocated() - before;
        DUE.holds("bytes made by 512 new objects, " + made + ", are at most 4,000 each", made <= 512 * 4_000);
        DUE.end();
    }

    private static long allocated() {
        return ((com.sun.management.ThreadMXBean) ManagementFactory.getThreadMXBean()).getCurrentThreadAllocatedBytes();
    }

    private static long run() {
        RoadColours x = new RoadColours();
        for (int p = 0; p < 12; p++) {
            x.post();
        }
        for (int p = 0; p < 8; p++) {
            x.road(p, (p + 1) % 8);
        }
        x.square(9);
        long sum = 0;
        for (int round = 0; round < 48; round++) {
            sum += x.least() + x.first(3) + x.critical() + x.count(9) + x.choose() + x.heap() + x.full(1);
            sum += x.even(5) + x.paint(0, -1) + x.mend(0) + x.rows();
        }
        return sum;
    }
}
