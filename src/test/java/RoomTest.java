import java.lang.management.ManagementFactory;

/** All calls of a run live in one room: an object must be small, and its calls must make next to nothing. */
public final class RoomTest {
    private static final Check CHECK = new Check();
    private static final com.sun.management.ThreadMXBean THREADS =
            (com.sun.management.ThreadMXBean) ManagementFactory.getThreadMXBean();

    public static void main(String[] args) {
        String text = "panel 90000;reviews 4;" + "reviewer 0 1 9 topics 3;".repeat(12) + "proposal 0 2 3 7000;".repeat(16);
        GrantAllocation x = Check.loaded(text);
        x.assignAll(0);
        for (int p = 0; p < 16; p++) {
            x.setScore(x.reviewerOf(p, 0), p, 6 * p + 1);
        }
        work(x, 1);
        long before = made();
        work(x, 512);
        CHECK.same("bytes of 512 rounds of calls are few", made() - before < 20000, true);
        before = made();
        GrantAllocation y = new GrantAllocation();
        CHECK.same("bytes of a new object are few", made() - before < 60000, true);
        CHECK.same("the new object", y.count(0), 0);
        CHECK.end();
    }

    private static long made() {
        return THREADS.getThreadAllocatedBytes(Thread.currentThread().getId());
    }

    /** Calls that succeed; one that throws makes an exception, of course. */
    private static void work(GrantAllocation x, int times) {
        int blanks = 0x20202020;
        for (int i = 0; i < times; i++) {
            x.append(blanks, blanks, blanks, blanks, blanks);
            x.truncate(0);
            x.setLine(i);
            x.declare(0, 15);
            x.undo();
            x.assignAll(0);
            x.mostReviews(0);
            x.bestMatchSum(0);
            x.matchSum(0);
            x.adjusted(x.reviewerOf(0, 0), 0);
            x.leniency(x.reviewerOf(0, 0));
            x.rank(3);
            x.ranked(-1, 3);
            x.tieRound(1, 2);
            x.amount(2, 3);
            x.funded(0);
            x.bestSum(0);
            x.lineFor(2, 16);
            x.count(5);
        }
    }
}
