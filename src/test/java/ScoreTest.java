import java.util.NoSuchElementException;

/** Promises 19 to 23: setScore, adjusted, normalized, leniency, disagreement. */
public final class ScoreTest {
    private static final Check CHECK = new Check();
    private static final int FAR = Integer.MAX_VALUE;

    public static void main(String[] args) {
        setScore();
        adjusted();
        outlier();
        normalized();
        leniency();
        disagreement();
        CHECK.end();
    }

    /** Three reviewers of panel 0 and one of panel 1; proposals 0 to 9 of panel 0, 10 and 11 of panel 1. */
    private static GrantAllocation plain() {
        return Check.loaded("panel 1;panel 1;reviews 4;" + "reviewer 0 1 10 topics 0;".repeat(3)
                + "reviewer 1 1 10 topics 0;" + "proposal 0 2 0 1;".repeat(10) + "proposal 1 2 0 1;".repeat(2));
    }

    private static void score(GrantAllocation x, int reviewer, int... scores) {
        for (int p = 0; p < scores.length; p++) {
            if (scores[p] != 0) {
                x.assign(reviewer, p);
                x.setScore(reviewer, p, scores[p]);
            }
        }
    }

    private static void setScore() {
        GrantAllocation x = plain();
        x.assign(0, 0);
        CHECK.same("first score", x.setScore(0, 0, 1), -1);
        CHECK.same("second score", x.setScore(0, 0, 100), 1);
        CHECK.same("removed", x.setScore(0, 0, -1), 100);
        CHECK.same("removed again", x.setScore(0, 0, -1), -1);
        CHECK.same("the review stays", x.count(3) * 10 + x.count(4), 10);
        CHECK.same("each one is a change", x.undo(), 4);
        for (int score : new int[] {0, 101, -2, FAR, Integer.MIN_VALUE}) {
            CHECK.fails("score " + score, IllegalArgumentException.class, () -> x.setScore(0, 0, score));
            CHECK.fails("score without review", IllegalArgumentException.class, () -> x.setScore(1, 0, score));
            CHECK.fails("score without proposal", IndexOutOfBoundsException.class, () -> x.setScore(0, 12, score));
        }
        CHECK.fails("no review", NoSuchElementException.class, () -> x.setScore(1, 0, 5));
        CHECK.fails("no review, no score", NoSuchElementException.class, () -> x.setScore(1, 0, -1));
        for (int r : new int[] {-1, 4, 12, FAR}) {
            CHECK.fails("reviewer " + r, IndexOutOfBoundsException.class, () -> x.setScore(r, 0, 5));
            CHECK.fails("adjusted " + r, IndexOutOfBoundsException.class, () -> x.adjusted(r, 0));
            CHECK.fails("leniency " + r, IndexOutOfBoundsException.class, () -> x.leniency(r));
        }
        for (int p : new int[] {-1, 12, 16, FAR}) {
            CHECK.fails("proposal " + p, IndexOutOfBoundsException.class, () -> x.setScore(0, p, 5));
            CHECK.fails("adjusted " + p, IndexOutOfBoundsException.class, () -> x.adjusted(0, p));
            CHECK.fails("normalized " + p, IndexOutOfBoundsException.class, () -> x.normalized(p));
            CHECK.fails("disagreement " + p, IndexOutOfBoundsException.class, () -> x.disagreement(p));
        }
        CHECK.same("wrong calls are no changes", x.undo(), 3);
    }

    private static void adjusted() {
        GrantAllocation x = plain();
        score(x, 0, 10);
        CHECK.same("a single score", x.adjusted(0, 0), 50000);
        score(x, 0, 0, 20, 60);
        CHECK.same("below", x.adjusted(0, 0), 30000);
        CHECK.same("a little below", x.adjusted(0, 1), 40000);
        CHECK.same("above", x.adjusted(0, 2), 80000);
        x.assign(0, 3);
        CHECK.same("a review without a score does not count", x.adjusted(0, 2), 80000);
        CHECK.fails("a review without a score", NoSuchElementException.class, () -> x.adjusted(0, 3));
        CHECK.fails("no review", NoSuchElementException.class, () -> x.adjusted(0, 4));
        score(x, 1, 1, 2, 3, 9);
        CHECK.same("-20952.4 is rounded down", x.adjusted(1, 0), 29047);
        CHECK.same("-13333.3 is rounded down", x.adjusted(1, 1), 36666);
        CHECK.same("-5714.3 is rounded down", x.adjusted(1, 2), 44285);
        CHECK.same("40000", x.adjusted(1, 3), 90000);
        score(x, 2, 7, 7, 7);
        CHECK.same("equal scores", x.adjusted(2, 1), 50000);
    }

    private static void outlier() {
        GrantAllocation x = plain();
        score(x, 0, 1, 100, 100, 100, 100, 100, 100, 100, 100, 100);
        CHECK.same("far below", x.adjusted(0, 0), -50000);
        CHECK.same("the others, rounded down", x.adjusted(0, 9), 61111);
        CHECK.same("a negative normalized score", x.normalized(0), -50000);
        score(x, 1, 100, 1, 1, 1, 1, 1, 1, 1, 1, 1);
        CHECK.same("far above", x.adjusted(1, 0), 150000);
        CHECK.same("the others, rounded down", x.adjusted(1, 9), 38888);
        CHECK.same("both", x.normalized(0), 50000);
        CHECK.same("49999.5 is rounded down", x.normalized(1), 49999);
    }

    private static void normalized() {
        GrantAllocation x = plain();
        CHECK.fails("no review", NoSuchElementException.class, () -> x.normalized(0));
        x.assign(0, 0);
        CHECK.fails("no score", NoSuchElementException.class, () -> x.normalized(0));
        x.setScore(0, 0, 3);
        CHECK.same("one score", x.normalized(0), 50000);
        score(x, 1, 1, 2, 3, 9);
        CHECK.same("(50000 + 29047) / 2", x.normalized(0), 39523);
        x.assign(2, 0);
        CHECK.same("a review without a score does not count", x.normalized(0), 39523);
        x.setScore(2, 0, 88);
        CHECK.same("(50000 + 29047 + 50000) / 3", x.normalized(0), 43015);
        GrantAllocation y = plain();
        score(y, 0, 1, 100, 100, 100, 100, 100, 100, 100, 100, 100);
        score(y, 1, 1, 2, 3, 9);
        CHECK.same("(-50000 + 29047) / 2 is rounded down", y.normalized(0), -10477);
    }

    private static void leniency() {
        GrantAllocation x = plain();
        CHECK.fails("no score at all", NoSuchElementException.class, () -> x.leniency(0));
        score(x, 0, 10, 20, 60);
        CHECK.same("alone in the panel", x.leniency(0), 0.0);
        CHECK.fails("others' scores alone", NoSuchElementException.class, () -> x.leniency(1));
        score(x, 1, 50);
        CHECK.same("strict", x.leniency(0), -5.0);
        CHECK.same("lenient", x.leniency(1), 15.0);
        x.assign(3, 10);
        x.setScore(3, 10, 99);
        CHECK.same("the other panel does not count", x.leniency(0), -5.0);
        CHECK.same("alone in the other panel", x.leniency(3), 0.0);
        x.assign(1, 1);
        CHECK.same("a review without a score does not count", x.leniency(1), 15.0);
        x.setScore(1, 1, 51);
        x.assign(2, 3);
        x.setScore(2, 3, 7);
        CHECK.same("as doubles", x.leniency(0), 90.0 / 3.0 - 198.0 / 6.0);
        x.setScore(2, 3, 8);
        CHECK.same("as doubles", x.leniency(1), 101.0 / 2.0 - 199.0 / 6.0);
    }

    private static void disagreement() {
        GrantAllocation x = plain();
        CHECK.fails("no score", NoSuchElementException.class, () -> x.disagreement(0));
        score(x, 0, 10);
        CHECK.fails("one score", NoSuchElementException.class, () -> x.disagreement(0));
        x.assign(1, 0);
        CHECK.fails("one score and a review", NoSuchElementException.class, () -> x.disagreement(0));
        x.setScore(1, 0, 20);
        CHECK.same("two scores", x.disagreement(0), 10.0);
        score(x, 2, 50);
        CHECK.same("three scores", x.disagreement(0), 80.0 / 3.0);
        x.setScore(1, 0, 5);
        CHECK.same("in no order", x.disagreement(0), 90.0 / 3.0);
        x.setScore(0, 0, 50);
        x.setScore(1, 0, 50);
        CHECK.same("equal scores", x.disagreement(0), 0.0);
    }
}
