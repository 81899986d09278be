import java.lang.management.ManagementFactory;

/** All calls of a run live in one room: what an object needs is made with it, and the dearest calls make nothing. */
public final class RoomTest {
    private static final int CALLS = 512, BYTES_OF_A_NEW_OBJECT = 4096;

    public static void main(String[] args) {
        Check check = new Check();
        // once ahead, so that what the machine makes as it loads classes is not counted
        dearestCalls(full());
        allocated();
        long before = allocated();
        PaperLayers x = new PaperLayers();
        long made = allocated() - before;
        check.isTrue("a new object takes little: " + made, made <= BYTES_OF_A_NEW_OBJECT && x.many(0) == 0);
        PaperLayers y = full();
        before = allocated();
        dearestCalls(y);
        made = allocated() - before;
        // less than one object for each call; the reading of the counter may need some itself
        check.isTrue("calls make nothing: " + made, made < 16 * CALLS);
        check.end();
    }

    private static long allocated() {
        com.sun.management.ThreadMXBean threads = (com.sun.management.ThreadMXBean) ManagementFactory.getThreadMXBean();
        return threads.getThreadAllocatedBytes(Thread.currentThread().getId());
    }

    private static PaperLayers full() {
        PaperLayers x = Check.made("w90;s11;t21;s31;t41;s51;t61");
        for (int r = 0; r < 8; r++) {
            x.reading(20, 0, 1);
        }
        return x;
    }

    /** 512 of each. */
    private static void dearestCalls(PaperLayers x) {
        Check.layNumbers(x, 0, 2, 0, 9, 3, 5);
        for (int call = 0; call < CALLS; call++) {
            x.orders(-1);
            x.orders(5);
            x.holds(5);
            x.advices(5);
            x.kinds(5);
            x.without(9);
            x.gets(9);
            x.odds(5, 0);
            x.days(0, 2, 0, 2, 2);
            x.sheet(1, 0, 60);
            x.wall(1, 0, 0, 60);
            x.tell(0);
        }
    }
}
