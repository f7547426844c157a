import java.util.NoSuchElementException;

/** Promises 11 to 18: assign to bestMatchSum. */
public final class ReviewTest {
    private static final Check CHECK = new Check();
    private static final int FAR = Integer.MAX_VALUE;

    public static void main(String[] args) {
        assign();
        unassign();
        greedyChoice();
        greedyRounds();
        reviewerOf();
        loadOfAndMatchSum();
        mostReviews();
        bestMatchSum();
        exchanges();
        longestExchange();
        CHECK.end();
    }

    private static GrantAllocation plain() {
        return Check.loaded("panel 500;panel 600;"
                + "reviewer 0 1 2 topics 3;reviewer 0 2 5 topics 0;reviewer 0 3 5 topics 7;reviewer 1 5 1 topics 1;"
                + "proposal 0 2 3 100;proposal 0 4 4 100;proposal 0 4 6 100;proposal 1 1 0 100;proposal 1 1 0 100;");
    }

    private static void assign() {
        GrantAllocation x = plain();
        CHECK.same("assign", x.assign(0, 0), 1);
        CHECK.same("assign a second one", x.assign(2, 0), 2);
        CHECK.same("reviews", x.count(3), 2);
        CHECK.same("without a score", x.count(4), 0);
        CHECK.fails("same institution", IllegalArgumentException.class, () -> x.assign(1, 0));
        CHECK.fails("another panel", IllegalArgumentException.class, () -> x.assign(0, 3));
        CHECK.fails("another panel", IllegalArgumentException.class, () -> x.assign(3, 0));
        CHECK.fails("again", IllegalStateException.class, () -> x.assign(0, 0));
        x.declare(1, 1);
        CHECK.fails("a declared conflict", IllegalArgumentException.class, () -> x.assign(1, 1));
        x.assign(0, 1);
        CHECK.fails("above the capacity", IllegalStateException.class, () -> x.assign(0, 2));
        x.declare(0, 2);
        CHECK.fails("a conflict and above the capacity", IllegalArgumentException.class, () -> x.assign(0, 2));
        x.assign(1, 2);
        x.assign(2, 2);
        CHECK.same("reviews of panel 0", x.count(3), 5);
        GrantAllocation y = Check.loaded("panel 1;reviews 1;reviewer 0 1 9 topics 0;reviewer 0 1 9 topics 0;"
                + "proposal 0 2 0 1;");
        y.assign(0, 0);
        CHECK.fails("above the reviews per proposal", IllegalStateException.class, () -> y.assign(1, 0));
        y.unassign(0, 0);
        CHECK.same("there is room again", y.assign(1, 0), 1);
        CHECK.same("changes", y.undo(), 2);
        for (int r : new int[] {-1, 4, 12, FAR}) {
            CHECK.fails("assign reviewer " + r, IndexOutOfBoundsException.class, () -> x.assign(r, 0));
        }
        for (int p : new int[] {-1, 5, 16, FAR}) {
            CHECK.fails("assign proposal " + p, IndexOutOfBoundsException.class, () -> x.assign(0, p));
        }
        GrantAllocation four = Check.loaded("panel 1;reviews 4;" + "reviewer 0 1 9 topics 0;".repeat(5) + "proposal 0 2 0 1;");
        for (int r = 0; r < 4; r++) {
            CHECK.same("four reviews", four.assign(r, 0), r + 1);
        }
        CHECK.fails("a fifth review", IllegalStateException.class, () -> four.assign(4, 0));
    }

    private static void unassign() {
        GrantAllocation x = plain();
        x.assign(0, 0);
        x.assign(2, 0);
        x.setScore(0, 0, 100);
        CHECK.fails("no review", NoSuchElementException.class, () -> x.unassign(1, 0));
        CHECK.same("unassign with a score", x.unassign(0, 0), 100);
        CHECK.same("unassign without a score", x.unassign(2, 0), -1);
        CHECK.same("reviews", x.count(3), 0);
        CHECK.same("scores", x.count(4), 0);
        CHECK.fails("no review any more", NoSuchElementException.class, () -> x.unassign(0, 0));
        x.assign(0, 0);
        CHECK.same("the score does not come back", x.unassign(0, 0), -1);
        CHECK.fails("unassign reviewer 4", IndexOutOfBoundsException.class, () -> x.unassign(4, 0));
        CHECK.fails("unassign reviewer -1", IndexOutOfBoundsException.class, () -> x.unassign(-1, 0));
        CHECK.fails("unassign proposal 5", IndexOutOfBoundsException.class, () -> x.unassign(0, 5));
        CHECK.fails("unassign proposal -1", IndexOutOfBoundsException.class, () -> x.unassign(0, -1));
        CHECK.same("changes", x.undo(), 6);
    }

    private static void greedyChoice() {
        // Reviewers 0 and 1 match by 1, 2 and 3 by 2, 4 has a conflict, 5 is of another panel.
        String text = "panel 1;panel 1;reviews 1;reviewer 0 1 9 topics 1;reviewer 0 1 9 topics 3;reviewer 0 1 9 topics 2;"
                + "reviewer 0 1 9 topics 2;reviewer 0 2 9 topics 2;reviewer 1 1 9 topics 2;"
                + "proposal 0 2 2 1;proposal 0 2 2 1;proposal 0 2 2 1;proposal 0 2 5 1;proposal 1 3 2 1;";
        GrantAllocation x = Check.loaded(text);
        CHECK.same("new reviews", x.assignAll(0), 4);
        CHECK.same("greatest match, then lowest number", x.reviewerOf(0, 0), 2);
        CHECK.same("fewest reviews", x.reviewerOf(1, 0), 3);
        CHECK.same("lowest number of two with one review", x.reviewerOf(2, 0), 2);
        CHECK.same("no match: fewest reviews, lowest number", x.reviewerOf(3, 0), 0);
        CHECK.fails("the other panel gets none", IndexOutOfBoundsException.class, () -> x.reviewerOf(4, 0));
        CHECK.same("again", x.assignAll(0), 0);
        CHECK.same("an empty assignAll is a change, all are one", x.undo(), 1);
        CHECK.same("undo takes all of them", x.undo() + x.count(3), 0);
        for (int panel : new int[] {-1, 2, 4, FAR}) {
            CHECK.fails("assignAll " + panel, IndexOutOfBoundsException.class, () -> x.assignAll(panel));
        }
        CHECK.fails("wrong calls are no changes", IllegalStateException.class, () -> x.undo());
    }

    private static void greedyRounds() {
        // Capacity for three reviews: by rounds each proposal gets one before one gets a second.
        GrantAllocation x = Check.loaded("panel 1;reviewer 0 1 2 topics 0;reviewer 0 1 1 topics 7;"
                + "proposal 0 2 0 1;proposal 0 2 0 1;proposal 0 1 0 1;");
        CHECK.same("new reviews", x.assignAll(0), 3);
        CHECK.same("first round, proposal 0", x.reviewerOf(0, 0), 0);
        CHECK.same("first round, proposal 1", x.reviewerOf(1, 0), 0);
        CHECK.same("second round, proposal 0", x.reviewerOf(0, 1), 1);
        CHECK.same("capacity 2", x.loadOf(0), 2);
        CHECK.same("capacity 1", x.loadOf(1), 1);
        CHECK.fails("a conflict with all", IndexOutOfBoundsException.class, () -> x.reviewerOf(2, 0));
        // A proposal that has a review already waits for the second round.
        GrantAllocation y = Check.loaded("panel 1;reviewer 0 1 9 topics 0;reviewer 0 1 1 topics 0;"
                + "proposal 0 2 0 1;proposal 0 2 0 1;");
        y.assign(0, 0);
        CHECK.same("new reviews", y.assignAll(0), 2);
        CHECK.same("round 1 gives proposal 1 the idle reviewer 1", y.reviewerOf(1, 1), 1);
        CHECK.same("round 2 gives it reviewer 0, too", y.reviewerOf(1, 0), 0);
        CHECK.fails("nobody is left for proposal 0", IndexOutOfBoundsException.class, () -> y.reviewerOf(0, 1));
    }

    private static void reviewerOf() {
        GrantAllocation x = Check.loaded("panel 1;reviews 3;" + "reviewer 0 1 9 topics 0;".repeat(12)
                + "proposal 0 2 0 1;proposal 0 2 0 1;");
        x.assign(11, 0);
        x.assign(0, 0);
        x.assign(7, 0);
        CHECK.same("lowest", x.reviewerOf(0, 0), 0);
        CHECK.same("middle", x.reviewerOf(0, 1), 7);
        CHECK.same("highest", x.reviewerOf(0, 2), 11);
        for (int k : new int[] {-1, 3, FAR, Integer.MIN_VALUE}) {
            CHECK.fails("index " + k, IndexOutOfBoundsException.class, () -> x.reviewerOf(0, k));
        }
        CHECK.fails("no reviewer", IndexOutOfBoundsException.class, () -> x.reviewerOf(1, 0));
        CHECK.fails("no proposal", IndexOutOfBoundsException.class, () -> x.reviewerOf(2, 0));
        CHECK.fails("proposal -1", IndexOutOfBoundsException.class, () -> x.reviewerOf(-1, 0));
        CHECK.fails("proposal 16", IndexOutOfBoundsException.class, () -> x.reviewerOf(16, 0));
    }

    private static void loadOfAndMatchSum() {
        GrantAllocation x = plain();
        CHECK.same("no load", x.loadOf(2), 0);
        CHECK.same("no sum", x.matchSum(0), 0);
        x.assign(0, 0);
        CHECK.same("match 2", x.matchSum(0), 2);
        x.assign(0, 1);
        CHECK.same("match 1 more", x.matchSum(0), 3);
        x.assign(1, 1);
        CHECK.same("match 0 more", x.matchSum(0), 3);
        x.assign(3, 3);
        CHECK.same("the other panel's reviews do not count", x.matchSum(0), 3);
        CHECK.same("panel 1", x.matchSum(1), 1);
        CHECK.same("load of 0", x.loadOf(0), 2);
        CHECK.same("load of 1", x.loadOf(1), 1);
        CHECK.same("load of 2", x.loadOf(2), 0);
        CHECK.same("load of 3", x.loadOf(3), 1);
        for (int r : new int[] {-1, 4, 12, FAR}) {
            CHECK.fails("loadOf " + r, IndexOutOfBoundsException.class, () -> x.loadOf(r));
        }
        for (int panel : new int[] {-1, 2, 4, FAR}) {
            CHECK.fails("matchSum " + panel, IndexOutOfBoundsException.class, () -> x.matchSum(panel));
            CHECK.fails("mostReviews " + panel, IndexOutOfBoundsException.class, () -> x.mostReviews(panel));
            CHECK.fails("bestMatchSum " + panel, IndexOutOfBoundsException.class, () -> x.bestMatchSum(panel));
        }
    }

    private static void mostReviews() {
        GrantAllocation x = plain();
        // Proposal 0 can have 0 and 2; 1 and 2 any two: six in all, with capacity 12.
        CHECK.same("panel 0", x.mostReviews(0), 6);
        CHECK.same("panel 1: capacity 1", x.mostReviews(1), 1);
        x.assign(3, 4);
        x.assign(0, 0);
        CHECK.same("present reviews do not count", x.mostReviews(0) * 10 + x.mostReviews(1), 61);
        x.declare(2, 0);
        CHECK.same("a conflict counts", x.mostReviews(0), 5);
        CHECK.same("a question is no change", x.undo(), 2);
        CHECK.same("an empty panel", Check.loaded("panel 1;").mostReviews(0), 0);
        CHECK.same("an empty panel", Check.loaded("panel 1;").bestMatchSum(0), 0);
        GrantAllocation full = Check.loaded("panel 1;reviews 4;" + "reviewer 0 1 10 topics 0;".repeat(12)
                + "proposal 0 2 1 1;".repeat(16));
        CHECK.same("the largest panel", full.mostReviews(0), 64);
        CHECK.same("the largest panel's sum", full.bestMatchSum(0), 64);
        GrantAllocation tight = Check.loaded("panel 1;reviews 4;" + "reviewer 0 1 3 topics 1;".repeat(12)
                + "proposal 0 2 1 1;".repeat(16));
        CHECK.same("the capacities bound it", tight.mostReviews(0), 36);
        CHECK.same("... and the sum", tight.bestMatchSum(0), 72);
    }

    private static void bestMatchSum() {
        // The greedy method gives reviewer 0 to proposal 0 and leaves proposal 1 without.
        GrantAllocation x = Check.loaded("panel 1;reviews 1;reviewer 0 1 1 topics 2;reviewer 0 3 1 topics 7;"
                + "proposal 0 2 2 1;proposal 0 3 2 1;");
        CHECK.same("greedy", x.assignAll(0), 1);
        CHECK.same("greedy sum", x.matchSum(0), 2);
        CHECK.same("most", x.mostReviews(0), 2);
        CHECK.same("best sum with the most reviews", x.bestMatchSum(0), 2);
        // Proposal 1 fits reviewer 0 alone, so two reviews of match 1 stand instead of one of match 2.
        GrantAllocation y = Check.loaded("panel 1;reviews 1;reviewer 0 1 1 topics 2;reviewer 0 2 1 topics 3;"
                + "proposal 0 3 2 1;proposal 0 2 3 1;");
        CHECK.same("most", y.mostReviews(0), 2);
        CHECK.same("the sum of two lesser matches", y.bestMatchSum(0), 2);
        GrantAllocation z = Check.loaded("panel 1;reviews 1;reviewer 0 1 1 topics 2;reviewer 0 2 1 topics 7;"
                + "proposal 0 3 2 1;proposal 0 2 6 1;");
        // Proposal 1 fits reviewer 0 alone (match 0), so proposal 0 must take reviewer 1 (match 0).
        CHECK.same("most", z.mostReviews(0), 2);
        CHECK.same("the sum has to give way", z.bestMatchSum(0), 0);
        CHECK.same("without the conflict", Check.loaded("panel 1;reviews 1;reviewer 0 1 1 topics 2;"
                + "reviewer 0 2 1 topics 7;proposal 0 3 2 1;proposal 0 4 6 1;").bestMatchSum(0), 3);
    }

    /** A chain in which each new review makes the earlier ones change their reviewers. */
    private static void exchanges() {
        StringBuilder text = new StringBuilder("panel 1;reviews 1;");
        for (int r = 0; r < 8; r++) {
            text.append("reviewer 0 0 1 topics ").append(r).append(';');
        }
        for (int p = 0; p < 8; p++) {
            text.append("proposal 0 1 ").append(p).append(" 1;");
        }
        // Proposal p keeps reviewers p and p - 1 alone; the last reviewer is then taken from proposal 7.
        GrantAllocation x = Check.loaded(text.toString());
        for (int p = 0; p < 8; p++) {
            for (int r = 0; r < 8; r++) {
                if (r != p && r != p - 1) {
                    x.declare(r, p);
                }
            }
        }
        CHECK.same("chain", x.mostReviews(0), 8);
        CHECK.same("chain sum", x.bestMatchSum(0), 16);
        x.declare(7, 7);
        CHECK.same("chain without its end", x.mostReviews(0), 7);
        CHECK.same("chain sum without its end", x.bestMatchSum(0), 14);
        x.declare(0, 0);
        CHECK.same("chain moved by one", x.mostReviews(0), 7);
        CHECK.same("chain sum moved by one", x.bestMatchSum(0), 7);
    }

    /** Each proposal but 0 would rather have the reviewer before its own; proposal 0 then makes all twelve change. */
    private static void longestExchange() {
        StringBuilder text = new StringBuilder("panel 1;reviews 1;");
        for (int i = 0; i < 12; i++) {
            text.append("reviewer 0 0 ").append(i < 11 ? 1 : 2).append(" topics ").append(i % 8).append(';');
        }
        for (int i = 0; i < 12; i++) {
            text.append("proposal 0 1 ").append((i + 7) % 8).append(" 1;");
        }
        GrantAllocation x = Check.loaded(text.toString());
        for (int p = 0; p < 12; p++) {
            for (int r = 0; r < 12; r++) {
                if (r != p && r != p - 1) {
                    x.declare(r, p);
                }
            }
        }
        CHECK.same("twelve reviewers change", x.mostReviews(0), 12);
        CHECK.same("... and match by 1, but for 0 and 8", x.bestMatchSum(0), 10);
    }
}
