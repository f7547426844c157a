import java.util.NoSuchElementException;

/** The boundary cases of promises 11 to 18, a test for each sentence. */
public final class ReviewEdgesTest {
    private static final Check CHECK = new Check();
    private static final int[] WRONG = {-1, -2, Integer.MIN_VALUE, Integer.MAX_VALUE};
    private static final String FULL = "panel 1;".repeat(4) + "reviewer 3 1 10 topics 0;".repeat(12)
            + "proposal 3 2 0 1;".repeat(16);

    public static void main(String[] args) {
        assignNobody();
        assignMisfit();
        assignTwice();
        assignReturns();
        unassignNobody();
        unassignReturns();
        unassignNothing();
        roundsOfAssignAll();
        choiceOfAssignAll();
        whoCannotBeChosen();
        assignAllIsOneChange();
        assignAllReturns();
        panels();
        reviewerOf();
        loadOf();
        matchSum();
        mostReviews();
        mostReviewsWithoutPresentOnes();
        bestMatchSum();
        CHECK.end();
    }

    private static GrantAllocation few() {
        return Check.loaded("panel 1;panel 1;reviewer 0 1 2 topics 0;reviewer 0 2 2 topics 0;reviewer 1 3 2 topics 0;"
                + "proposal 0 3 0 1;proposal 0 2 0 1;proposal 0 3 0 1;proposal 0 3 0 1;proposal 1 1 0 1;");
    }

    private interface PairCall {
        Object of(int reviewer, int proposal);
    }

    private static void nobody(String name, GrantAllocation x, PairCall call) {
        int reviewers = x.count(1);
        int proposals = x.count(2);
        CHECK.fails(name + ", reviewer " + reviewers, IndexOutOfBoundsException.class, () -> call.of(reviewers, 0));
        CHECK.fails(name + ", proposal " + proposals, IndexOutOfBoundsException.class, () -> call.of(0, proposals));
        CHECK.fails(name + ", both", IndexOutOfBoundsException.class, () -> call.of(reviewers, proposals));
        for (int wrong : WRONG) {
            CHECK.fails(name + ", reviewer " + wrong, IndexOutOfBoundsException.class, () -> call.of(wrong, 0));
            CHECK.fails(name + ", proposal " + wrong, IndexOutOfBoundsException.class, () -> call.of(0, wrong));
        }
    }

    // ---- promise 11

    private static void assignNobody() {
        CHECK.sentence("11: Throws IndexOutOfBoundsException if there is no such reviewer or proposal");
        GrantAllocation x = Check.loaded(FULL);
        GrantAllocation y = few();
        nobody("assign", x, (r, p) -> x.assign(r, p));
        nobody("assign", y, (r, p) -> y.assign(r, p));
        CHECK.same("the last ones", x.assign(11, 15), 1);
        CHECK.same("the first ones", y.assign(0, 0), 1);
        CHECK.same("no other reviews", x.count(3) + y.count(3), 2);
    }

    private static void assignMisfit() {
        CHECK.sentence("11: Throws IllegalArgumentException if the reviewer does not fit the proposal");
        GrantAllocation x = few();
        CHECK.fails("another panel", IllegalArgumentException.class, () -> x.assign(2, 0));
        CHECK.fails("same institution", IllegalArgumentException.class, () -> x.assign(1, 1));
        x.declare(0, 0);
        CHECK.fails("declared", IllegalArgumentException.class, () -> x.assign(0, 0));
        x.undo();
        CHECK.same("not declared any more", x.assign(0, 0), 1);
        CHECK.same("no other review", x.count(3), 1);
    }

    private static void assignTwice() {
        CHECK.sentence("11: Throws IllegalStateException if the reviewer has a review of the proposal");
        GrantAllocation x = Check.loaded("panel 1;reviews 4;reviewer 0 1 10 topics 0;proposal 0 2 0 1;");
        x.assign(0, 0);
        CHECK.fails("a review without a score", IllegalStateException.class, () -> x.assign(0, 0));
        x.setScore(0, 0, 77);
        CHECK.fails("a review with a score", IllegalStateException.class, () -> x.assign(0, 0));
        CHECK.same("the score stays", x.setScore(0, 0, 78), 77);

        CHECK.sentence("11: Throws IllegalStateException if the reviewer has as many reviews as the capacity says");
        GrantAllocation y = few();
        y.assign(0, 0);
        y.assign(0, 2);
        CHECK.fails("a third one", IllegalStateException.class, () -> y.assign(0, 3));
        y.unassign(0, 0);
        CHECK.same("one less", y.assign(0, 3), 1);

        CHECK.sentence("11: Throws IllegalStateException if the proposal has as many reviews as there are per proposal");
        GrantAllocation z = Check.loaded("panel 1;" + "reviewer 0 1 9 topics 0;".repeat(3) + "proposal 0 2 0 1;");
        z.assign(0, 0);
        z.assign(1, 0);
        CHECK.fails("a third one", IllegalStateException.class, () -> z.assign(2, 0));
        z.unassign(1, 0);
        CHECK.same("one less", z.assign(2, 0), 2);
    }

    private static void assignReturns() {
        CHECK.sentence("11: Returns the number of reviews of the proposal");
        GrantAllocation x = Check.loaded("panel 1;reviews 4;" + "reviewer 0 1 9 topics 0;".repeat(12) + "proposal 0 2 0 1;"
                + "proposal 0 2 0 1;");
        CHECK.same("the first", x.assign(11, 0), 1);
        CHECK.same("the second", x.assign(0, 0), 2);
        CHECK.same("of this proposal alone", x.assign(0, 1), 1);
        CHECK.same("the third", x.assign(5, 0), 3);
        CHECK.same("the fourth", x.assign(6, 0), 4);
        x.unassign(0, 0);
        CHECK.same("the fourth again", x.assign(1, 0), 4);
    }

    // ---- promise 12

    private static void unassignNobody() {
        CHECK.sentence("12: Throws IndexOutOfBoundsException if there is no such reviewer or proposal");
        GrantAllocation x = Check.loaded(FULL);
        x.assign(11, 15);
        nobody("unassign", x, (r, p) -> x.unassign(r, p));
        CHECK.same("the last ones", x.unassign(11, 15), -1);
        GrantAllocation y = few();
        nobody("unassign", y, (r, p) -> y.unassign(r, p));
    }

    private static void unassignReturns() {
        CHECK.sentence("12: Returns the score that it had; NONE if it had none");
        GrantAllocation x = few();
        for (int score : new int[] {1, 100, 50}) {
            Check.score(x, 0, 0, score);
            CHECK.same("score " + score, x.unassign(0, 0), score);
        }
        x.assign(0, 0);
        CHECK.same("no score, though there was one before", x.unassign(0, 0), -1);
        Check.score(x, 0, 0, 50);
        x.setScore(0, 0, -1);
        CHECK.same("a removed score", x.unassign(0, 0), -1);
        CHECK.same("no reviews and scores are left", x.count(3) + x.count(4), 0);
    }

    private static void unassignNothing() {
        CHECK.sentence("12: Throws NoSuchElementException if there is no such review");
        GrantAllocation x = few();
        CHECK.fails("no review at all", NoSuchElementException.class, () -> x.unassign(0, 0));
        x.assign(0, 0);
        CHECK.fails("another reviewer's", NoSuchElementException.class, () -> x.unassign(1, 0));
        CHECK.fails("another proposal's", NoSuchElementException.class, () -> x.unassign(0, 2));
        CHECK.fails("a reviewer who does not fit", NoSuchElementException.class, () -> x.unassign(2, 0));
        x.unassign(0, 0);
        CHECK.fails("again", NoSuchElementException.class, () -> x.unassign(0, 0));
        CHECK.same("two changes", x.undo(), 1);
    }

    // ---- promise 13

    private static String reviewersOf(GrantAllocation x, int proposal) {
        StringBuilder all = new StringBuilder();
        for (int k = 0; k < 4; k++) {
            int index = k;
            Object reviewer = Check.answer(() -> x.reviewerOf(proposal, index));
            all.append(reviewer instanceof Integer ? reviewer + " " : "");
        }
        return all.toString().trim();
    }

    private static void roundsOfAssignAll() {
        CHECK.sentence("13: In rounds, as many as there are reviews per proposal, the proposals of the panel are"
                + " considered in ascending order; each one that has fewer reviews than the number of the round (from 1)"
                + " gets one review");
        for (int reviews = 1; reviews <= 4; reviews++) {
            GrantAllocation x = Check.loaded("panel 1;reviews " + reviews + ";" + "reviewer 0 1 10 topics 0;".repeat(5)
                    + "proposal 0 2 0 1;proposal 0 2 0 1;");
            CHECK.same(reviews + " rounds", x.assignAll(0), 2 * reviews);
            CHECK.same(reviews + " rounds again", x.assignAll(0), 0);
        }
        // One reviewer with room for three: a round gives each proposal one before the next round begins.
        GrantAllocation x = Check.loaded("panel 1;reviewer 0 1 1 topics 0;reviewer 0 1 2 topics 0;proposal 0 2 0 1;"
                + "proposal 0 2 0 1;");
        CHECK.same("three reviews", x.assignAll(0), 3);
        CHECK.same("two for proposal 0", reviewersOf(x, 0), "0 1");
        CHECK.same("one for proposal 1", reviewersOf(x, 1), "1");
        // Proposal 0 has a review already and waits in round 1, so proposal 1 comes before it.
        GrantAllocation y = Check.loaded("panel 1;reviewer 0 1 1 topics 0;reviewer 0 1 1 topics 0;proposal 0 2 0 1;"
                + "proposal 0 2 0 1;");
        y.assign(0, 0);
        CHECK.same("one review", y.assignAll(0), 1);
        CHECK.same("none for proposal 0", reviewersOf(y, 0), "0");
        CHECK.same("one for proposal 1", reviewersOf(y, 1), "1");
        // With 3 reviews already it waits for round 4.
        GrantAllocation z = Check.loaded("panel 1;reviews 4;" + "reviewer 0 1 3 topics 0;".repeat(3)
                + "reviewer 0 1 1 topics 0;proposal 0 2 0 1;proposal 0 2 0 1;");
        z.assign(0, 0);
        z.assign(1, 0);
        z.assign(2, 0);
        CHECK.same("four reviews", z.assignAll(0), 4);
        CHECK.same("the idle reviewer went to proposal 1 in round 1", reviewersOf(z, 0) + "/" + reviewersOf(z, 1), "0 1 2/0 1 2 3");
    }

    private static void choiceOfAssignAll() {
        CHECK.sentence("13: the one with the greatest match, of several the one with the fewest reviews, then with the"
                + " lowest number");
        String start = "panel 1;reviews 1;";
        String end = "proposal 0 2 4 1;proposal 0 2 7 1;proposal 0 2 7 1;";
        GrantAllocation match = Check.loaded(start + "reviewer 0 1 9 topics 2;reviewer 0 1 9 topics 3;"
                + "reviewer 0 1 9 topics 4;reviewer 0 1 9 topics 5;" + end);
        match.assign(2, 1);
        match.assignAll(0);
        CHECK.same("match 2 before fewer reviews and lower numbers", reviewersOf(match, 0), "2");
        GrantAllocation near = Check.loaded(start + "reviewer 0 1 9 topics 2;reviewer 0 1 9 topics 6;reviewer 0 1 9 topics 3;"
                + end);
        near.assign(2, 1);
        near.assignAll(0);
        CHECK.same("match 1 before match 0", reviewersOf(near, 0), "2");
        GrantAllocation fewest = Check.loaded(start + "reviewer 0 1 9 topics 3;reviewer 0 1 9 topics 5;reviewer 0 1 9 topics 3;"
                + end);
        fewest.assign(0, 1);
        fewest.assign(1, 2);
        fewest.assignAll(0);
        CHECK.same("the fewest reviews", reviewersOf(fewest, 0), "2");
        GrantAllocation lowest = Check.loaded(start + "reviewer 0 1 9 topics 0;reviewer 0 1 9 topics 3;reviewer 0 1 9 topics 5;"
                + "reviewer 0 1 9 topics 3;" + end);
        lowest.assignAll(0);
        CHECK.same("the lowest number", reviewersOf(lowest, 0), "1");
        GrantAllocation none = Check.loaded(start + "reviewer 0 1 9 topics 0;reviewer 0 1 9 topics 1;" + end);
        none.assignAll(0);
        CHECK.same("match 0 does, too", reviewersOf(none, 0), "0");
    }

    private static void whoCannotBeChosen() {
        CHECK.sentence("13: if there is a reviewer who fits it, has no review of it yet, and has fewer reviews than the"
                + " capacity says");
        GrantAllocation panel = Check.loaded("panel 1;panel 1;reviewer 1 1 9 topics 0;proposal 0 2 0 1;");
        CHECK.same("a reviewer of another panel", panel.assignAll(0) + panel.assignAll(1), 0);
        GrantAllocation institution = Check.loaded("panel 1;reviewer 0 2 9 topics 0;proposal 0 2 0 1;");
        CHECK.same("a reviewer of the same institution", institution.assignAll(0), 0);
        GrantAllocation declared = Check.loaded("panel 1;reviewer 0 1 9 topics 0;proposal 0 2 0 1;conflict 0 0;");
        CHECK.same("a reviewer with a declared conflict", declared.assignAll(0), 0);
        GrantAllocation had = Check.loaded("panel 1;reviewer 0 1 9 topics 0;proposal 0 2 0 1;");
        CHECK.same("one review by each reviewer", had.assignAll(0), 1);
        GrantAllocation capacity = Check.loaded("panel 1;reviews 1;reviewer 0 1 2 topics 0;" + "proposal 0 2 0 1;".repeat(3));
        CHECK.same("as many as the capacity says", capacity.assignAll(0), 2);
        CHECK.same("the last one has none", reviewersOf(capacity, 2), "");
        GrantAllocation nobody = Check.loaded("panel 1;proposal 0 2 0 1;");
        CHECK.same("no reviewer", nobody.assignAll(0), 0);
        // The proposal that nobody can take does not end the round.
        GrantAllocation first = Check.loaded("panel 1;reviewer 0 1 9 topics 0;proposal 0 1 0 1;proposal 0 2 0 1;");
        CHECK.same("the proposals behind it", first.assignAll(0) + reviewersOf(first, 1), "10");
    }

    private static void assignAllIsOneChange() {
        CHECK.sentence("13: All these assignments together are one change, even if there is none");
        GrantAllocation x = Check.loaded(FULL);
        x.setLine(1);
        CHECK.same("32 assignments", x.assignAll(3), 32);
        CHECK.same("one change", x.undo(), 1);
        CHECK.same("all are undone", x.count(3), 0);
        CHECK.same("no assignment", x.assignAll(0), 0);
        CHECK.same("a change, too", x.undo(), 1);
        x.assignAll(3);
        CHECK.same("no assignment, since all stand", x.assignAll(3), 0);
        CHECK.same("a change, too", x.undo(), 2);
        CHECK.same("the reviews stand", x.count(3), 32);
    }

    private static void assignAllReturns() {
        CHECK.sentence("13: Returns the number of new reviews");
        GrantAllocation x = Check.loaded("panel 1;reviews 4;" + "reviewer 0 1 10 topics 0;".repeat(12)
                + "proposal 0 2 0 1;".repeat(16));
        Check.score(x, 3, 3, 50);
        CHECK.same("all but one", x.assignAll(0), 63);
        CHECK.same("the score stays", x.setScore(3, 3, 51), 50);
        x.unassign(x.reviewerOf(15, 3), 15);
        CHECK.same("one", x.assignAll(0), 1);
        CHECK.same("none", x.assignAll(0), 0);
    }

    private static void panels() {
        for (GrantAllocation x : new GrantAllocation[] {Check.loaded(FULL), few()}) {
            int panels = x.count(0);
            for (int panel : new int[] {panels, panels + 1, 4, 12, 16, -1, -2, Integer.MIN_VALUE, Integer.MAX_VALUE}) {
                CHECK.sentence("13: Throws IndexOutOfBoundsException if there is no such panel");
                CHECK.fails("assignAll " + panel, IndexOutOfBoundsException.class, () -> x.assignAll(panel));
                CHECK.fails("no change", IllegalStateException.class, () -> x.undo());
                CHECK.sentence("16: Throws IndexOutOfBoundsException if there is no such panel");
                CHECK.fails("matchSum " + panel, IndexOutOfBoundsException.class, () -> x.matchSum(panel));
                CHECK.sentence("17: Throws IndexOutOfBoundsException if there is no such panel");
                CHECK.fails("mostReviews " + panel, IndexOutOfBoundsException.class, () -> x.mostReviews(panel));
                CHECK.sentence("18: Throws IndexOutOfBoundsException if there is no such panel");
                CHECK.fails("bestMatchSum " + panel, IndexOutOfBoundsException.class, () -> x.bestMatchSum(panel));
            }
            CHECK.sentence("13, 16, 17, 18: the last panel is there");
            CHECK.answers("matchSum", () -> x.matchSum(panels - 1));
            CHECK.answers("mostReviews", () -> x.mostReviews(panels - 1));
            CHECK.answers("bestMatchSum", () -> x.bestMatchSum(panels - 1));
            CHECK.answers("assignAll", () -> x.assignAll(panels - 1));
        }
    }

    // ---- promises 14 to 16

    private static void reviewerOf() {
        CHECK.sentence("14: index among its reviewers in ascending order, from 0");
        GrantAllocation x = Check.loaded("panel 1;reviews 4;" + "reviewer 0 1 10 topics 0;".repeat(12)
                + "proposal 0 2 0 1;".repeat(16));
        for (int r : new int[] {6, 11, 0, 5}) {
            x.assign(r, 15);
        }
        CHECK.same("ascending", reviewersOf(x, 15), "0 5 6 11");
        x.unassign(0, 15);
        CHECK.same("one less", reviewersOf(x, 15), "5 6 11");

        CHECK.sentence("14: Throws IndexOutOfBoundsException if there is no such proposal or index");
        for (int k : new int[] {-1, 3, 4, 11, 12, Integer.MIN_VALUE, Integer.MAX_VALUE}) {
            CHECK.fails("index " + k, IndexOutOfBoundsException.class, () -> x.reviewerOf(15, k));
        }
        CHECK.fails("index 0 of none", IndexOutOfBoundsException.class, () -> x.reviewerOf(0, 0));
        for (int p : new int[] {-1, 16, Integer.MIN_VALUE, Integer.MAX_VALUE}) {
            CHECK.fails("proposal " + p, IndexOutOfBoundsException.class, () -> x.reviewerOf(p, 0));
        }
        GrantAllocation y = few();
        CHECK.fails("proposal 5 of 5", IndexOutOfBoundsException.class, () -> y.reviewerOf(5, 0));
    }

    private static void loadOf() {
        CHECK.sentence("15: Throws IndexOutOfBoundsException if there is no such reviewer");
        GrantAllocation x = Check.loaded(FULL);
        for (int r : new int[] {-1, 12, 16, Integer.MIN_VALUE, Integer.MAX_VALUE}) {
            CHECK.fails("reviewer " + r, IndexOutOfBoundsException.class, () -> x.loadOf(r));
        }
        CHECK.fails("reviewer 3 of 3", IndexOutOfBoundsException.class, () -> few().loadOf(3));
        CHECK.sentence("15: Returns the number of reviews: none, and as many as the capacity says");
        CHECK.same("none", x.loadOf(11), 0);
        for (int p = 0; p < 10; p++) {
            x.assign(11, p + 6);
            CHECK.same("one more", x.loadOf(11), p + 1);
        }
        CHECK.same("another reviewer", x.loadOf(10), 0);
    }

    private static void matchSum() {
        CHECK.sentence("16: the sum of the matches of all reviews of a panel: none, and as many as there can be");
        GrantAllocation x = Check.loaded("panel 1;panel 1;reviews 4;" + "reviewer 1 1 10 topics 7;".repeat(11)
                + "reviewer 0 1 10 topics 7;" + "proposal 1 2 7 1;".repeat(15) + "proposal 0 2 6 1;");
        CHECK.same("no review", x.matchSum(0) + x.matchSum(1), 0);
        CHECK.same("60 reviews", x.assignAll(1), 60);
        CHECK.same("of 2 each", x.matchSum(1), 120);
        CHECK.same("of another panel", x.matchSum(0), 0);
        x.assignAll(0);
        CHECK.same("one of 1", x.matchSum(0), 1);
        CHECK.same("the sum of the first stays", x.matchSum(1), 120);
        CHECK.same("a panel with nothing", Check.loaded("panel 1;").matchSum(0), 0);
    }

    // ---- promises 17 and 18

    private static void mostReviews() {
        CHECK.sentence("17: the greatest number of reviews that a panel could have in all");
        CHECK.same("nobody", Check.loaded("panel 1;").mostReviews(0), 0);
        CHECK.same("no reviewer", Check.loaded("panel 1;proposal 0 2 0 1;").mostReviews(0), 0);
        CHECK.same("no proposal", Check.loaded("panel 1;reviewer 0 1 9 topics 0;").mostReviews(0), 0);
        CHECK.same("a conflict", Check.loaded("panel 1;reviewer 0 1 9 topics 0;proposal 0 1 0 1;").mostReviews(0), 0);
        CHECK.same("another panel", Check.loaded("panel 1;panel 1;reviewer 0 1 9 topics 0;proposal 1 2 0 1;").mostReviews(1), 0);
        CHECK.same("the reviewer of it", Check.loaded("panel 1;panel 1;reviewer 0 1 9 topics 0;proposal 1 2 0 1;").mostReviews(0), 0);
        CHECK.same("one", Check.loaded("panel 1;reviewer 0 1 1 topics 0;proposal 0 2 0 1;").mostReviews(0), 1);
        CHECK.same("one of each", Check.loaded("panel 1;reviews 4;reviewer 0 1 9 topics 0;proposal 0 2 0 1;").mostReviews(0), 1);
        String twelve = "reviewer 0 1 10 topics 0;".repeat(12);
        String sixteen = "proposal 0 2 0 1;".repeat(16);
        for (int reviews = 1; reviews <= 4; reviews++) {
            GrantAllocation x = Check.loaded("panel 1;reviews " + reviews + ";" + twelve + sixteen);
            CHECK.same("the largest, " + reviews + " reviews", x.mostReviews(0), 16 * reviews);
        }
        GrantAllocation tight = Check.loaded("panel 1;reviews 4;" + "reviewer 0 1 1 topics 0;".repeat(12) + sixteen);
        CHECK.same("capacity 1", tight.mostReviews(0), 12);
        // The greedy method gives reviewer 0 away where reviewer 1 could stand.
        GrantAllocation greedy = Check.loaded("panel 1;reviews 1;reviewer 0 1 1 topics 0;reviewer 0 2 1 topics 7;"
                + "proposal 0 3 0 1;proposal 0 2 0 1;");
        CHECK.same("greedy", greedy.assignAll(0), 1);
        CHECK.same("more than greedy", greedy.mostReviews(0), 2);
    }

    private static void mostReviewsWithoutPresentOnes() {
        CHECK.sentence("17: if its present reviews did not exist");
        GrantAllocation x = Check.loaded("panel 1;panel 1;reviews 1;reviewer 0 1 1 topics 0;reviewer 0 2 1 topics 7;"
                + "proposal 0 3 0 1;proposal 0 2 0 1;");
        x.assign(0, 0);
        CHECK.same("a review in the way", x.mostReviews(0), 2);
        x.setScore(0, 0, 50);
        CHECK.same("a score in the way", x.mostReviews(0), 2);
        x.unassign(0, 0);
        x.assign(0, 1);
        x.assign(1, 0);
        CHECK.same("as many as there can be", x.mostReviews(0), 2);
        CHECK.same("the reviews stay", x.count(3), 2);
        x.unassign(0, 1);
        x.declare(0, 1);
        CHECK.same("a declared conflict stays", x.mostReviews(0), 1);
        x.undo();
        CHECK.same("an undone one does not", x.mostReviews(0), 2);
    }

    private static void bestMatchSum() {
        CHECK.sentence("18: the greatest sum of the matches that the reviews of a panel could have, if its present reviews"
                + " did not exist");
        CHECK.same("nobody", Check.loaded("panel 1;").bestMatchSum(0), 0);
        CHECK.same("match 0", Check.loaded("panel 1;reviewer 0 1 1 topics 0;proposal 0 2 7 1;").bestMatchSum(0), 0);
        CHECK.same("match 1", Check.loaded("panel 1;reviewer 0 1 1 topics 6;proposal 0 2 7 1;").bestMatchSum(0), 1);
        CHECK.same("match 2", Check.loaded("panel 1;reviewer 0 1 1 topics 7;proposal 0 2 7 1;").bestMatchSum(0), 2);
        GrantAllocation full = Check.loaded("panel 1;reviews 4;" + "reviewer 0 1 10 topics 0;".repeat(12)
                + "proposal 0 2 0 1;".repeat(16));
        CHECK.same("64 of 2", full.bestMatchSum(0), 128);
        GrantAllocation x = Check.loaded("panel 1;reviews 1;reviewer 0 1 1 topics 0;reviewer 0 1 1 topics 1;"
                + "proposal 0 2 1 1;proposal 0 2 0 1;");
        x.assign(0, 0);
        x.assign(1, 1);
        CHECK.same("present", x.matchSum(0), 2);
        CHECK.same("best", x.bestMatchSum(0), 4);

        // Reviewer 0 does best for both (2 and 1), but can take one only.
        GrantAllocation z = Check.loaded("panel 1;reviews 1;reviewer 0 1 1 topics 2 4;reviewer 0 1 1 topics 3;"
                + "reviewer 0 1 1 topics 7;proposal 0 2 2 1;proposal 0 2 5 1;");
        CHECK.same("proposal 0 takes it: 2 + 0", z.bestMatchSum(0), 2);
        z.declare(2, 1);
        z.declare(1, 1);
        CHECK.same("proposal 1 has to take it, reviewer 1 takes proposal 0: 1 + 1", z.bestMatchSum(0), 2);
        z.declare(1, 0);
        CHECK.same("reviewer 2 takes proposal 0: 0 + 1", z.bestMatchSum(0), 1);

        CHECK.sentence("18: and there had to be as many reviews as mostReviews() says");
        // The one review of match 2 would leave proposal 1 without; two reviews have matches 0 and 1.
        GrantAllocation y = Check.loaded("panel 1;reviews 1;reviewer 0 1 1 topics 4;reviewer 0 2 1 topics 0;"
                + "proposal 0 3 4 1;proposal 0 2 5 1;");
        CHECK.same("two reviews", y.mostReviews(0), 2);
        CHECK.same("of less in sum", y.bestMatchSum(0), 1);
        y.declare(0, 1);
        CHECK.same("one review", y.mostReviews(0), 1);
        CHECK.same("of more", y.bestMatchSum(0), 2);
    }
}
