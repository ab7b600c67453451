import java.lang.management.ManagementFactory;

/**
 * What a run makes is made by the constructor, far below the room that all calls of a run share,
 * and the calls make nothing more (LANGUAGE.md, rule 12).
 */
public final class RoomTest {
    // 330,000 elements of 8 bytes and some more; the room is 7.3 million of them.
    private static final long MOST_BYTES = 2_700_000;
    // Measuring makes a little itself; an object in each of 512 calls, or one table, makes more.
    private static final long SLACK = 4_000;
    private static final com.sun.management.ThreadMXBean THREADS =
        (com.sun.management.ThreadMXBean) ManagementFactory.getThreadMXBean();
    private static final int KING_ASIDE = 44 + 64 * 43;

    private RoomTest() {
    }

    private static long made() {
        return THREADS.getThreadAllocatedBytes(Thread.currentThread().getId());
    }

    /** Each call of the face that does not throw; their sum keeps them from being left out. */
    private static long calls(EndTables x) {
        long sum = x.set(1, 44, 36, 60, 0) ? 1 : 0;
        for (int i = 0; i < 36; i++) {
            sum += x.run(100) + x.left() + x.moves() + x.about(5) + x.size(true);
            sum += x.count(i % 5 + 1, i % 2, i - 1) + x.longest(i % 5 + 1) + x.find(1, 1, -1, 1000 * i);
            sum += x.distance(1, 44, 36, 60, 0) + (x.set(1, 44, 36, 60, 0) ? x.best() : 0);
            sum += x.play(KING_ASIDE) + x.move(0) + (x.set(1, 44, 36, 60, 0) ? 1 : 0);
        }
        return sum;
    }

    /** A new object's first call of a kind finds its distances, and makes nothing for that either. */
    private static void firstCalls(int files, int ranks) {
        for (int kind = 1; kind <= 5; kind++) {
            EndTables x = new EndTables(files, ranks);
            long before = made();
            int longest = x.longest(kind);
            long bytes = made() - before;
            Check.yes(files + "x" + ranks + ": longest(" + kind + ") = " + longest + " makes " + bytes + " bytes",
                bytes <= SLACK);
        }
    }

    public static void main(String[] args) {
        // Once before all, as the classes' loading makes something.
        calls(new EndTables(8, 8));
        made();
        long start = made();
        EndTables x = new EndTables(8, 8);
        long ofObject = made() - start;
        Check.yes("the object's " + ofObject + " bytes are at most " + MOST_BYTES, ofObject <= MOST_BYTES);
        long before = made();
        long sum = calls(x);
        long ofCalls = made() - before;
        Check.yes("calls answered", sum > 0);
        Check.yes("the calls make " + ofCalls + " bytes", ofCalls <= SLACK);
        firstCalls(8, 8);
        firstCalls(3, 3);
        Check.end("RoomTest");
    }
}
