import java.util.NoSuchElementException;

/** The boundary cases of GENERAL, NORMALIZED SCORES and promises 19 to 23, a test for each sentence. */
public final class ScoreEdgesTest {
    private static final Check CHECK = new Check();
    private static final int[] NO_REVIEWER = {-1, 12, 16, Integer.MIN_VALUE, Integer.MAX_VALUE};
    private static final int[] NO_PROPOSAL = {-1, 16, 17, Integer.MIN_VALUE, Integer.MAX_VALUE};

    public static void main(String[] args) {
        roundDown();
        adjustedOfEqualScores();
        adjustedOfTwoAndThree();
        extremes();
        normalizedScore();
        noScoredReviews();
        setScoreRange();
        setScoreReturns();
        setScoreThrows();
        adjustedThrows();
        normalizedThrows();
        leniency();
        leniencyThrows();
        disagreement();
        disagreementThrows();
        CHECK.end();
    }

    /** Twelve reviewers and sixteen proposals; the last reviewer and the last proposal belong to panel 1. */
    private static GrantAllocation plain() {
        return Check.loaded("panel 1;panel 1;reviews 4;" + "reviewer 0 1 10 topics 0;".repeat(11)
                + "reviewer 1 1 10 topics 0;" + "proposal 0 2 0 1;".repeat(15) + "proposal 1 2 0 1;");
    }

    private static void scores(GrantAllocation x, int reviewer, int... scores) {
        for (int p = 0; p < scores.length; p++) {
            Check.score(x, reviewer, p, scores[p]);
        }
    }

    // ---- GENERAL and NORMALIZED SCORES

    private static void roundDown() {
        CHECK.sentence("GENERAL: Divisions of integers round down (towards negative infinity)");
        GrantAllocation x = plain();
        scores(x, 0, 100, 1, 1, 1, 1, 1, 1, 1, 1, 1);
        CHECK.same("adjusted, -11111.1", x.adjusted(0, 1), 38888);
        scores(x, 1, 1, 100, 100, 100, 100, 100, 100, 100, 100, 100);
        CHECK.same("adjusted, 11111.1", x.adjusted(1, 1), 61111);
        CHECK.same("normalized, 49999.5", x.normalized(1), 49999);
        GrantAllocation y = plain();
        scores(y, 0, 1, 100, 100, 100, 100, 100, 100, 100, 100, 100);
        scores(y, 1, 1, 2, 3, 9);
        CHECK.same("adjusted, -20952.4", y.adjusted(1, 0), 29047);
        CHECK.same("normalized, -10476.5", y.normalized(0), -10477);
        GrantAllocation z = plain();
        scores(z, 0, 1, 100, 100, 100, 100, 100, 100, 100, 100, 100);
        scores(z, 1, 1, 2, 3, 9);
        scores(z, 2, 1, 1, 2);
        CHECK.same("normalized, 14047 / 3", z.normalized(0), 4682);
        GrantAllocation w = plain();
        scores(w, 0, 1, 100, 100, 100, 100, 100, 100, 100, 100, 100);
        scores(w, 1, 1, 100, 100, 100, 100, 100, 100, 100, 100, 100);
        scores(w, 2, 1, 2, 3, 9);
        CHECK.same("normalized, -70953 / 3 = -23651", w.normalized(0), -23651);
        scores(w, 3, 1, 100, 100, 100, 100, 100, 100, 100, 100, 100);
        CHECK.same("normalized, -120953 / 4 = -30238.25", w.normalized(0), -30239);
    }

    private static void adjustedOfEqualScores() {
        CHECK.sentence("NORMALIZED SCORES: The adjusted score of a review with the score x is 50000 if D is 0");
        for (int score : new int[] {1, 50, 100}) {
            GrantAllocation x = plain();
            scores(x, 0, score);
            CHECK.same("a single score of " + score, x.adjusted(0, 0), 50000);
            scores(x, 1, score, score);
            CHECK.same("two of " + score, x.adjusted(1, 0) + x.adjusted(1, 1), 100000);
            scores(x, 2, score, score, score, score, score, score, score, score, score, score);
            CHECK.same("ten of " + score, x.adjusted(2, 9), 50000);
            x.assign(1, 2);
            CHECK.same("a review without a score does not count", x.adjusted(1, 1), 50000);
        }
        GrantAllocation y = plain();
        scores(y, 0, 50, 51);
        CHECK.same("not equal by 1", y.adjusted(0, 0), 30000);
        y.setScore(0, 1, -1);
        CHECK.same("its score removed", y.adjusted(0, 0), 50000);
    }

    private static void adjustedOfTwoAndThree() {
        CHECK.sentence("NORMALIZED SCORES: and otherwise 50000 + 20000 * n * (n * x - S) / D");
        GrantAllocation x = plain();
        scores(x, 0, 50, 51);
        CHECK.same("two scores, as near as can be", x.adjusted(0, 0) + " " + x.adjusted(0, 1), "30000 70000");
        scores(x, 1, 1, 100);
        CHECK.same("two scores, as far as can be", x.adjusted(1, 0) + " " + x.adjusted(1, 1), "30000 70000");
        scores(x, 2, 1, 1, 2);
        CHECK.same("three scores", x.adjusted(2, 0) + " " + x.adjusted(2, 2), "35000 80000");
        scores(x, 3, 1, 100, 50);
        CHECK.same("a score a little under the mean, -201.3", x.adjusted(3, 2), 49798);
    }

    private static void extremes() {
        CHECK.sentence("NORMALIZED SCORES: the greatest and the least adjusted score");
        GrantAllocation x = plain();
        scores(x, 0, 100, 1, 1, 1, 1, 1, 1, 1, 1, 1);
        CHECK.same("the greatest", x.adjusted(0, 0), 150000);
        CHECK.same("the greatest normalized score", x.normalized(0), 150000);
        GrantAllocation y = plain();
        scores(y, 0, 1, 100, 100, 100, 100, 100, 100, 100, 100, 100);
        CHECK.same("the least", y.adjusted(0, 0), -50000);
        CHECK.same("the least normalized score", y.normalized(0), -50000);
        GrantAllocation z = plain();
        scores(z, 0, 1, 2, 2, 2, 2);
        CHECK.same("0 is a score like another", z.normalized(0), 0);
    }

    private static void normalizedScore() {
        CHECK.sentence("NORMALIZED SCORES: the sum of the adjusted scores of its scored reviews, divided by their number");
        GrantAllocation x = plain();
        scores(x, 0, 1, 2);
        CHECK.same("one of 30000", x.normalized(0), 30000);
        x.assign(1, 0);
        CHECK.same("and a review without a score", x.normalized(0), 30000);
        x.setScore(1, 0, 9);
        CHECK.same("and one of 50000", x.normalized(0), 40000);
        scores(x, 2, 2, 1);
        CHECK.same("and one of 70000", x.normalized(0), 50000);
        scores(x, 3, 2, 1);
        CHECK.same("and one of 70000", x.normalized(0), 55000);
        x.setScore(0, 0, -1);
        CHECK.same("without the first", x.normalized(0), 63333);
        CHECK.same("its reviewer's other score is alone: (50000 + 30000 + 30000) / 3", x.normalized(1), 36666);
    }

    private static void noScoredReviews() {
        CHECK.sentence("NORMALIZED SCORES: a proposal without scored reviews has none");
        GrantAllocation x = plain();
        CHECK.fails("no review", NoSuchElementException.class, () -> x.normalized(0));
        x.assign(0, 0);
        CHECK.fails("a review without a score", NoSuchElementException.class, () -> x.normalized(0));
        x.setScore(0, 0, 1);
        CHECK.same("a score", x.normalized(0), 50000);
        x.setScore(0, 0, -1);
        CHECK.fails("the score removed", NoSuchElementException.class, () -> x.normalized(0));
        x.setScore(0, 0, 1);
        x.unassign(0, 0);
        CHECK.fails("the review removed", NoSuchElementException.class, () -> x.normalized(0));
    }

    // ---- promise 19

    private static void setScoreRange() {
        CHECK.sentence("19: score: 1 to 100, or NONE to remove the score");
        GrantAllocation x = plain();
        x.assign(10, 14);
        CHECK.same("1", x.setScore(10, 14, 1), -1);
        CHECK.same("2", x.setScore(10, 14, 2), 1);
        CHECK.same("99", x.setScore(10, 14, 99), 2);
        CHECK.same("100", x.setScore(10, 14, 100), 99);
        CHECK.same("NONE", x.setScore(10, 14, GrantAllocation.NONE), 100);
        CHECK.same("removed", x.count(4), 0);
        CHECK.same("the review stays", x.reviewerOf(14, 0), 10);

        CHECK.sentence("19: Throws IllegalArgumentException if score is out of range");
        for (int score : new int[] {0, 101, 102, -2, -100, 256, Integer.MIN_VALUE, Integer.MAX_VALUE}) {
            CHECK.fails("score " + score, IllegalArgumentException.class, () -> x.setScore(10, 14, score));
        }
        CHECK.same("none was set", x.count(4), 0);
        CHECK.same("five changes and the assignment", x.undo(), 5);
    }

    private static void setScoreReturns() {
        CHECK.sentence("19: Returns the previous score; NONE if there was none");
        GrantAllocation x = plain();
        x.assign(0, 0);
        CHECK.same("none", x.setScore(0, 0, 50), -1);
        CHECK.same("50", x.setScore(0, 0, 50), 50);
        CHECK.same("50 again", x.setScore(0, 0, -1), 50);
        CHECK.same("none", x.setScore(0, 0, -1), -1);
        CHECK.same("none again", x.setScore(0, 0, 1), -1);
        CHECK.same("each one is a change", x.undo(), 5);
        x.undo();
        x.undo();
        CHECK.same("the score of the second change", x.setScore(0, 0, 3), 50);
    }

    private static void setScoreThrows() {
        CHECK.sentence("19: Throws IndexOutOfBoundsException if there is no such reviewer or proposal");
        GrantAllocation x = plain();
        for (int r : NO_REVIEWER) {
            CHECK.fails("reviewer " + r, IndexOutOfBoundsException.class, () -> x.setScore(r, 0, 5));
        }
        for (int p : NO_PROPOSAL) {
            CHECK.fails("proposal " + p, IndexOutOfBoundsException.class, () -> x.setScore(0, p, 5));
        }
        CHECK.sentence("19: Throws NoSuchElementException if there is no such review");
        x.assign(0, 0);
        for (int score : new int[] {1, 100, -1}) {
            CHECK.fails("another reviewer", NoSuchElementException.class, () -> x.setScore(1, 0, score));
            CHECK.fails("another proposal", NoSuchElementException.class, () -> x.setScore(0, 1, score));
            CHECK.fails("the last ones", NoSuchElementException.class, () -> x.setScore(11, 15, score));
        }
        x.unassign(0, 0);
        CHECK.fails("removed", NoSuchElementException.class, () -> x.setScore(0, 0, 5));
    }

    // ---- promises 20 and 21

    private static void adjustedThrows() {
        CHECK.sentence("20: Throws IndexOutOfBoundsException if there is no such reviewer or proposal");
        GrantAllocation x = plain();
        for (int r : NO_REVIEWER) {
            CHECK.fails("reviewer " + r, IndexOutOfBoundsException.class, () -> x.adjusted(r, 0));
        }
        for (int p : NO_PROPOSAL) {
            CHECK.fails("proposal " + p, IndexOutOfBoundsException.class, () -> x.adjusted(0, p));
        }
        CHECK.sentence("20: Throws NoSuchElementException if there is no such review, or if it has no score");
        CHECK.fails("no review", NoSuchElementException.class, () -> x.adjusted(0, 0));
        x.assign(0, 0);
        CHECK.fails("no score", NoSuchElementException.class, () -> x.adjusted(0, 0));
        x.setScore(0, 0, 1);
        CHECK.same("a score", x.adjusted(0, 0), 50000);
        CHECK.fails("another reviewer", NoSuchElementException.class, () -> x.adjusted(1, 0));
        CHECK.fails("another proposal", NoSuchElementException.class, () -> x.adjusted(0, 1));
        x.setScore(0, 0, -1);
        CHECK.fails("the score removed", NoSuchElementException.class, () -> x.adjusted(0, 0));
        Check.score(x, 11, 15, 100);
        CHECK.same("the last ones", x.adjusted(11, 15), 50000);
    }

    private static void normalizedThrows() {
        CHECK.sentence("21: Throws IndexOutOfBoundsException if there is no such proposal");
        GrantAllocation x = plain();
        for (int p : NO_PROPOSAL) {
            CHECK.fails("proposal " + p, IndexOutOfBoundsException.class, () -> x.normalized(p));
        }
        CHECK.sentence("21: Throws NoSuchElementException if it has none");
        CHECK.fails("none", NoSuchElementException.class, () -> x.normalized(15));
        Check.score(x, 11, 15, 100);
        CHECK.same("the last one", x.normalized(15), 50000);
        CHECK.fails("another one", NoSuchElementException.class, () -> x.normalized(14));
    }

    // ---- promise 22

    private static void leniency() {
        CHECK.sentence("22: the mean of the scores of the reviewer minus the mean of all scores of the panel of the"
                + " reviewer, where each mean is a sum divided by a number, as doubles");
        GrantAllocation x = plain();
        scores(x, 0, 100);
        CHECK.same("the only score", x.leniency(0), 0.0);
        scores(x, 1, 1);
        CHECK.same("as lenient as can be of two", x.leniency(0), 49.5);
        CHECK.same("as strict as can be of two", x.leniency(1), -49.5);
        scores(x, 10, 1, 1, 2);
        CHECK.same("thirds and fifths", x.leniency(10), 4.0 / 3.0 - 105.0 / 5.0);
        x.assign(10, 3);
        CHECK.same("a review without a score does not count", x.leniency(10), 4.0 / 3.0 - 105.0 / 5.0);
        Check.score(x, 11, 15, 77);
        CHECK.same("another panel does not count", x.leniency(0), 100.0 - 105.0 / 5.0);
        CHECK.same("the other panel", x.leniency(11), 0.0);
    }

    private static void leniencyThrows() {
        CHECK.sentence("22: Throws IndexOutOfBoundsException if there is no such reviewer");
        GrantAllocation x = plain();
        for (int r : NO_REVIEWER) {
            CHECK.fails("reviewer " + r, IndexOutOfBoundsException.class, () -> x.leniency(r));
        }
        CHECK.sentence("22: Throws NoSuchElementException if the reviewer has given no score");
        CHECK.fails("no score at all", NoSuchElementException.class, () -> x.leniency(0));
        scores(x, 1, 50);
        CHECK.fails("no score of this one", NoSuchElementException.class, () -> x.leniency(0));
        x.assign(0, 0);
        CHECK.fails("a review without a score", NoSuchElementException.class, () -> x.leniency(0));
        x.setScore(0, 0, 50);
        CHECK.same("a score", x.leniency(0), 0.0);
        x.setScore(0, 0, -1);
        CHECK.fails("the score removed", NoSuchElementException.class, () -> x.leniency(0));
    }

    // ---- promise 23

    private static void disagreement() {
        CHECK.sentence("23: the sum of the absolute differences of all pairs of its scores, divided by the number of these"
                + " pairs, as doubles");
        GrantAllocation x = plain();
        scores(x, 0, 1);
        scores(x, 1, 100);
        CHECK.same("as much as can be", x.disagreement(0), 99.0);
        x.setScore(1, 0, 1);
        CHECK.same("none", x.disagreement(0), 0.0);
        x.setScore(1, 0, 2);
        scores(x, 2, 3);
        CHECK.same("three scores", x.disagreement(0), 4.0 / 3.0);
        scores(x, 3, 100);
        CHECK.same("four scores", x.disagreement(0), 298.0 / 6.0);
        x.setScore(1, 0, 100);
        x.setScore(2, 0, 1);
        CHECK.same("two and two", x.disagreement(0), 66.0);
    }

    private static void disagreementThrows() {
        CHECK.sentence("23: Throws IndexOutOfBoundsException if there is no such proposal");
        GrantAllocation x = plain();
        for (int p : NO_PROPOSAL) {
            CHECK.fails("proposal " + p, IndexOutOfBoundsException.class, () -> x.disagreement(p));
        }
        CHECK.sentence("23: Throws NoSuchElementException if it has fewer than 2 scores");
        CHECK.fails("no score", NoSuchElementException.class, () -> x.disagreement(0));
        scores(x, 0, 5);
        CHECK.fails("one score", NoSuchElementException.class, () -> x.disagreement(0));
        x.assign(1, 0);
        CHECK.fails("one score of two reviews", NoSuchElementException.class, () -> x.disagreement(0));
        x.setScore(1, 0, 5);
        CHECK.same("two scores", x.disagreement(0), 0.0);
        x.setScore(0, 0, -1);
        CHECK.fails("one score again", NoSuchElementException.class, () -> x.disagreement(0));
    }
}
