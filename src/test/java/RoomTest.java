import java.lang.management.ManagementFactory;

/** That runs of calls stay small: an object makes its rows when it is made, and its calls make none. */
public final class RoomTest {
    private static final Check CHECK = new Check("RoomTest");
    private static final int ROUNDS = 20;
    private static final int MOST_BYTES_OF_AN_OBJECT = 8000;
    private static final int MOST_BYTES_OF_ALL_CALLS = 2000;

    // What is answered is kept, so that no call can be left out as useless.
    private static long kept;

    public static void main(String[] args) {
        // Once ahead of what is measured: what the machine itself makes at a first use is not the program's.
        useAll(new CanDepths());
        allocated();
        long least = Long.MAX_VALUE;
        long leastOfCalls = Long.MAX_VALUE;
        for (int round = 0; round < ROUNDS; round++) {
            long start = allocated();
            CanDepths x = new CanDepths();
            long made = allocated();
            useAll(x);
            long used = allocated();
            least = Math.min(least, made - start);
            leastOfCalls = Math.min(leastOfCalls, used - made);
        }
        CHECK.due("an object is small: " + least + " bytes", least <= MOST_BYTES_OF_AN_OBJECT ? 1 : 0, 1);
        CHECK.due("calls make nothing: " + leastOfCalls + " bytes", leastOfCalls <= MOST_BYTES_OF_ALL_CALLS ? 1 : 0, 1);
        CHECK.end();
    }

    private static long allocated() {
        var threads = (com.sun.management.ThreadMXBean) ManagementFactory.getThreadMXBean();
        return threads.getThreadAllocatedBytes(Thread.currentThread().getId());
    }

    private static void useAll(CanDepths x) {
        Check.takeText(x, Check.SKEW_7);
        for (int i = 0; i < 30; i++) {
            kept += x.turn(0, i & 3, true) + x.bend(0, i % 5 - 2, 0) + x.head(0, 3) + x.depth(0, 1, 1);
            kept += x.ground(0, 1, 2, 2, 50, -50) + x.tile(0, 1, 9, 9, 6) + x.byTurns(0, 1, 9, 9, 4);
            kept += x.best(0, 0, 3) + x.field(0, 9, 9, 3, 3, 0, 11) + x.count(5) + x.digest() + x.fault();
            kept += x.drop(1) + x.take() + x.blank();
        }
    }
}
