import java.lang.management.ManagementFactory;

/** All calls of a run live in one room, so no call may make an object once its own has been made. */
public final class RoomTest {
    private static final com.sun.management.ThreadMXBean THREADS =
        (com.sun.management.ThreadMXBean) ManagementFactory.getThreadMXBean();
    private static final long ROOM_OF_ONE = 100_000;
    /** Less than one byte a call: the machine takes some of its own, now and then. */
    private static final long ROOM_OF_ALL_CALLS = 4_000;
    private static int sink = 0;

    public static void main(String[] args) {
        allCalls(made(), 1);
        long start = bytes();
        DeltaCycles x = made();
        long room = bytes() - start;
        Check.holds("an object takes " + room + " bytes", room < ROOM_OF_ONE);
        start = bytes();
        allCalls(x, 20);
        long more = bytes() - start;
        Check.holds(more + " bytes that some 10000 calls take", more < ROOM_OF_ALL_CALLS);
        Check.holds("the calls were made", sink != 0);
        Check.end("RoomTest");
    }

    private static DeltaCycles made() {
        return new DeltaCycles();
    }

    private static long bytes() {
        return THREADS.getThreadAllocatedBytes(Thread.currentThread().getId());
    }

    private static final char[] TEXT = "w0;w1;w0;w1;g0 0 0 1 0 0;g1 0 1 2 3 1;g0 2 2 2 1 0;g5 1 2 3 20 1;w2;".toCharArray();
    private static final char[] RING = "w0;w0;w0;g0 0 0 1 0 0;g0 1 1 2 0 0;g0 2 2 0 0 0;w0;".toCharArray();

    private static void allCalls(DeltaCycles x, int times) {
        for (int i = 0; i < times; i++) {
            char[] text = i % 3 == 0 ? RING : TEXT;
            for (char c : text) {
                sink += x.feed(c);
            }
            sink += x.wires() + x.fault() + x.seed(i) + x.keep(0) + x.write(0, 1);
            for (int j = 0; j < 20; j++) {
                sink += x.set(j % 5, j % 4, j % 7) + x.step() + x.run(j + 1) + x.calm() + x.drift(16) + x.undo(j % 16 + 1);
                asks(x, j);
            }
            sink += x.goBack(0) + x.keep(1) + x.goBack(1) + x.tear() + x.resolved(1, 2) + x.comes(3, 0, 1);
        }
    }

    private static void asks(DeltaCycles x, int j) {
        for (int what = 0; what < 15; what++) {
            sink += x.told(what) + x.wire(j % 5, what) + x.gate(j % 4, what) + x.wave(j % 5, what, j % 3) + x.queue(j % 4, what, j % 3);
        }
    }
}
