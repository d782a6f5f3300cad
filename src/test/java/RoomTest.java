import java.lang.management.ManagementFactory;

/** The room that all calls of a run share: the dearest calls make nothing new, so rows are used again. */
public final class RoomTest {
    private static final int CALLS = 512;
    /** An object has some 2,500 elements; a byte count far above that but far below a leak's. */
    private static final long MOST_OF_AN_OBJECT = 40_000;
    private static final long MOST_OF_ALL_CALLS = 40_000;

    public static void main(String[] args) {
        callsOf(new SharedWire());
        long start = allocated();
        SharedWire x = new SharedWire();
        long made = allocated() - start;
        Due.isTrue("a new object takes " + made + " bytes", made < MOST_OF_AN_OBJECT);
        start = allocated();
        callsOf(x);
        long used = allocated() - start;
        Due.isTrue(CALLS + " calls take " + used + " bytes", used < MOST_OF_ALL_CALLS);
        Due.end();
    }

    /** Six calls each time round. */
    private static void callsOf(SharedWire x) {
        for (int i = 0; i < CALLS / 6; i++) {
            if (x.node(i % 4, 3) < 4) {
                x.want(i % 4, i % 2 == 0, i, -1, 8);
            }
            x.step(200, i % 16);
            if (x.node(i % 4, 3) > 0) {
                x.tape(i % 4);
            }
            x.read();
        }
    }

    private static long allocated() {
        com.sun.management.ThreadMXBean threads = (com.sun.management.ThreadMXBean) ManagementFactory.getThreadMXBean();
        return threads.getThreadAllocatedBytes(Thread.currentThread().getId());
    }
}
