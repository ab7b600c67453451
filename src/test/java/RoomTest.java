import java.lang.management.ManagementFactory;

/** What 512 of the dearest calls make stays far below the room that all calls of a run share. */
public final class RoomTest {
    // 7.3 million fields and elements of 8 bytes would be 58 million bytes.
    private static final long MOST_BYTES = 6_000_000;

    private RoomTest() {
    }

    private static long made() {
        com.sun.management.ThreadMXBean threads =
            (com.sun.management.ThreadMXBean) ManagementFactory.getThreadMXBean();
        return threads.getThreadAllocatedBytes(Thread.currentThread().getId());
    }

    /** All kinds of calls but those that throw; their sum keeps them from being left out. */
    private static long calls() {
        EndTables x = new EndTables(8, 8);
        long sum = x.set(1, 44, 36, 60, 0) ? 1 : 0;
        for (int i = 0; i < 51; i++) {
            sum += x.run(100) + x.left() + x.moves() + x.about(5) + x.count(i % 5 + 1, i % 2, i - 1) + x.longest(1);
            sum += x.find(1, 1, -1, 1000 * i) + x.distance(1, 44, 36, 60, 0) + (x.set(1, 44, 36, 60, 0) ? x.best() : 0);
        }
        return sum;
    }

    public static void main(String[] args) {
        calls();
        long before = made();
        long sum = calls();
        long bytes = made() - before;
        Check.yes("calls answered", sum > 0);
        Check.yes(bytes + " bytes are at most " + MOST_BYTES, bytes <= MOST_BYTES);
        Check.end("RoomTest");
    }
}
