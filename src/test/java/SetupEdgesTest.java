/** The boundary cases of PANELS, REVIEWERS AND PROPOSALS and of promises 7 to 10, a test for each sentence. */
public final class SetupEdgesTest {
    private static final Check CHECK = new Check();
    private static final int[] WRONG = {-1, -2, Integer.MIN_VALUE, Integer.MAX_VALUE};
    private static final String FULL = "panel 1;".repeat(4) + "reviewer 0 1 10 topics 0;".repeat(11)
            + "reviewer 3 9 10 topics 7;" + "proposal 0 2 0 1;".repeat(15) + "proposal 3 9 7 9;";

    public static void main(String[] args) {
        numberedFromZero();
        conflict();
        fits();
        match();
        capacity();
        reviewsPerProposal();
        scores();
        count();
        countAtItsEnds();
        countOfConflictsAndAppeals();
        isConflict();
        matchOfNobody();
        declare();
        declareAgain();
        declareAgainstAReview();
        CHECK.end();
    }

    private static void numberedFromZero() {
        CHECK.sentence("PANELS: There are at most 4 panels, at most 12 reviewers and at most 16 proposals, each numbered"
                + " from 0");
        GrantAllocation x = Check.loaded(FULL);
        CHECK.same("panels", x.count(0), 4);
        CHECK.same("reviewers", x.count(1), 12);
        CHECK.same("proposals", x.count(2), 16);
        CHECK.same("the first of all", x.match(0, 0) * 100 + x.left(0, 0) * 10 + x.loadOf(0), 210);
        CHECK.same("the last of all", x.match(11, 15) * 100 + x.left(0, 3) * 10 + x.loadOf(11), 210);
        CHECK.fails("panel 4", IndexOutOfBoundsException.class, () -> x.left(0, 4));
        CHECK.fails("reviewer 12", IndexOutOfBoundsException.class, () -> x.loadOf(12));
        CHECK.fails("proposal 16", IndexOutOfBoundsException.class, () -> x.amount(0, 16));
        GrantAllocation one = Check.loaded("panel 1;reviewer 0 1 1 topics 0;proposal 0 2 0 1;");
        CHECK.fails("panel 1 of one", IndexOutOfBoundsException.class, () -> one.left(0, 1));
        CHECK.fails("reviewer 1 of one", IndexOutOfBoundsException.class, () -> one.loadOf(1));
        CHECK.fails("proposal 1 of one", IndexOutOfBoundsException.class, () -> one.amount(0, 1));
    }

    private static void conflict() {
        CHECK.sentence("PANELS: A reviewer has a conflict with a proposal if both have the same institution, or if a"
                + " conflict was declared");
        for (int institution = 0; institution <= 9; institution++) {
            StringBuilder text = new StringBuilder("panel 1;panel 1;reviewer 0 " + institution + " 1 topics 0;");
            for (int other = 0; other <= 9; other++) {
                text.append("proposal ").append(other & 1).append(' ').append(other).append(" 0 1;");
            }
            GrantAllocation x = Check.loaded(text.toString());
            for (int other = 0; other <= 9; other++) {
                CHECK.same(institution + " and " + other, x.isConflict(0, other), institution == other);
            }
        }
        GrantAllocation x = Check.loaded("panel 1;reviewer 0 1 1 topics 0;reviewer 0 1 1 topics 0;proposal 0 2 0 1;"
                + "proposal 0 2 0 1;");
        x.declare(0, 1);
        CHECK.same("declared", x.isConflict(0, 1), true);
        CHECK.same("another proposal", x.isConflict(0, 0), false);
        CHECK.same("another reviewer", x.isConflict(1, 1) || x.isConflict(1, 0), false);
    }

    private static void fits() {
        CHECK.sentence("PANELS: A reviewer fits a proposal if both belong to the same panel and there is no conflict");
        GrantAllocation x = Check.loaded("panel 1;panel 1;reviewer 0 1 9 topics 0;reviewer 1 1 9 topics 0;"
                + "proposal 0 2 0 1;proposal 0 1 0 1;proposal 1 2 0 1;proposal 1 1 0 1;proposal 0 2 0 1;");
        CHECK.fails("same panel, same institution", IllegalArgumentException.class, () -> x.assign(0, 1));
        CHECK.fails("another panel", IllegalArgumentException.class, () -> x.assign(0, 2));
        CHECK.fails("another panel, same institution", IllegalArgumentException.class, () -> x.assign(0, 3));
        CHECK.fails("the last panel's reviewer", IllegalArgumentException.class, () -> x.assign(1, 0));
        x.declare(0, 4);
        CHECK.fails("same panel, declared conflict", IllegalArgumentException.class, () -> x.assign(0, 4));
        CHECK.same("same panel, no conflict", x.assign(0, 0), 1);
        CHECK.same("in the last panel", x.assign(1, 2), 1);
    }

    private static void match() {
        CHECK.sentence("PANELS: The match is 2 if the reviewer has expertise in the topic; otherwise 1 if in a topic that"
                + " differs from it by 1; otherwise 0");
        for (int topic = 0; topic <= 7; topic++) {
            StringBuilder text = new StringBuilder("panel 1;reviewer 0 1 1 topics " + topic + ";");
            for (int wanted = 0; wanted <= 7; wanted++) {
                text.append("proposal 0 2 ").append(wanted).append(" 1;");
            }
            GrantAllocation x = Check.loaded(text.toString());
            for (int wanted = 0; wanted <= 7; wanted++) {
                int distance = Math.abs(topic - wanted);
                // No wrap-around: 7 and 0 differ by 7.
                int due = distance == 0 ? 2 : distance == 1 ? 1 : 0;
                CHECK.same("topics " + topic + " and " + wanted, x.match(0, wanted), due);
            }
        }
        GrantAllocation x = Check.loaded("panel 1;reviewer 0 1 1 topics 4 3;reviewer 0 1 1 topics 2 4;"
                + "reviewer 0 1 1 topics 0 1 2 3 4 5 6 7;reviewer 0 1 1 topics 1 5;proposal 0 2 3 1;");
        CHECK.same("the topic itself and one beside it", x.match(0, 0), 2);
        CHECK.same("one on each side", x.match(1, 0), 1);
        CHECK.same("all topics", x.match(2, 0), 2);
        CHECK.same("two away on each side", x.match(3, 0), 0);
    }

    private static void capacity() {
        CHECK.sentence("PANELS: A reviewer has at most as many reviews as the capacity says");
        for (int capacity = 1; capacity <= 10; capacity++) {
            int most = capacity;
            GrantAllocation x = Check.loaded("panel 1;panel 1;reviewer 0 1 " + capacity + " topics 0;"
                    + "proposal 0 2 0 1;".repeat(12));
            for (int p = 0; p < capacity; p++) {
                CHECK.same("review " + p + " of " + capacity, x.assign(0, p), 1);
            }
            CHECK.fails("one more than " + capacity, IllegalStateException.class, () -> x.assign(0, most));
            CHECK.same("the load", x.loadOf(0), capacity);
            CHECK.same("assignAll adds none", x.assignAll(0), 0);
            x.undo();
            x.unassign(0, 0);
            CHECK.same("there is room for one again", x.assign(0, most), 1);
            CHECK.fails("but for no second one", IllegalStateException.class, () -> x.assign(0, 0));
            CHECK.same("mostReviews", x.mostReviews(0), capacity);
        }
    }

    private static void reviewsPerProposal() {
        CHECK.sentence("PANELS: a proposal has at most as many reviews as the number of reviews per proposal says");
        for (int reviews = 1; reviews <= 4; reviews++) {
            int most = reviews;
            GrantAllocation x = Check.loaded("panel 1;reviews " + reviews + ";" + "reviewer 0 1 1 topics 0;".repeat(6)
                    + "proposal 0 2 0 1;");
            for (int r = 0; r < reviews; r++) {
                CHECK.same("review " + r + " of " + reviews, x.assign(r, 0), r + 1);
            }
            CHECK.fails("one more than " + reviews, IllegalStateException.class, () -> x.assign(most, 0));
            CHECK.same("assignAll adds none", x.assignAll(0), 0);
            x.undo();
            x.unassign(0, 0);
            CHECK.same("there is room for one again", x.assign(most, 0), reviews);
            CHECK.fails("but for no second one", IllegalStateException.class, () -> x.assign(0, 0));
            CHECK.same("mostReviews", x.mostReviews(0), reviews);
        }
    }

    private static void scores() {
        CHECK.sentence("PANELS: A review may have a score from 1 to 100");
        GrantAllocation x = Check.loaded("panel 1;reviewer 0 1 1 topics 0;proposal 0 2 0 1;");
        x.assign(0, 0);
        CHECK.same("none", x.count(4), 0);
        CHECK.same("1", x.setScore(0, 0, 1), -1);
        CHECK.same("100", x.setScore(0, 0, 100), 1);
        CHECK.fails("0", IllegalArgumentException.class, () -> x.setScore(0, 0, 0));
        CHECK.fails("101", IllegalArgumentException.class, () -> x.setScore(0, 0, 101));
        CHECK.same("the score stays", x.unassign(0, 0), 100);
    }

    // ---- promise 7

    private static void count() {
        CHECK.sentence("7: Throws IllegalArgumentException if what is out of range");
        for (GrantAllocation x : new GrantAllocation[] {new GrantAllocation(), Check.loaded(FULL)}) {
            for (int what : new int[] {-1, 7, 8, Integer.MIN_VALUE, Integer.MAX_VALUE}) {
                CHECK.fails("what " + what, IllegalArgumentException.class, () -> x.count(what));
            }
            for (int what = 0; what <= 6; what++) {
                int number = what;
                CHECK.answers("what " + what, () -> x.count(number));
            }
        }
    }

    private static void countAtItsEnds() {
        CHECK.sentence("7: 3 reviews, 4 scored reviews: none, some and as many as there can be");
        GrantAllocation x = Check.loaded("panel 1;reviews 4;" + "reviewer 0 1 10 topics 0;".repeat(12)
                + "proposal 0 2 0 1;".repeat(16));
        CHECK.same("none", x.count(3) + x.count(4), 0);
        x.assign(11, 15);
        CHECK.same("a review without a score", x.count(3) * 100 + x.count(4), 100);
        x.setScore(11, 15, 1);
        CHECK.same("a review with a score", x.count(3) * 100 + x.count(4), 101);
        x.setScore(11, 15, -1);
        CHECK.same("its score removed", x.count(3) * 100 + x.count(4), 100);
        CHECK.same("the others", x.assignAll(0), 63);
        CHECK.same("all", x.count(3), 64);
        for (int p = 0; p < 16; p++) {
            for (int k = 0; k < 4; k++) {
                CHECK.same("scored", x.count(4), 4 * p + k);
                x.setScore(x.reviewerOf(p, k), p, 100);
            }
        }
        CHECK.same("all scored", x.count(4), 64);
    }

    private static void countOfConflictsAndAppeals() {
        CHECK.sentence("7: 5 declared conflicts: none, and as many as there can be");
        GrantAllocation x = Check.loaded(FULL);
        for (int r = 0; r < 12; r++) {
            for (int p = 0; p < 16; p++) {
                CHECK.same("before " + r + " " + p, x.count(5), 16 * r + p);
                x.declare(r, p);
            }
        }
        CHECK.same("all pairs", x.count(5), 192);
        x.declare(0, 0);
        CHECK.same("again", x.count(5), 192);

        CHECK.sentence("7: 6 granted appeals: none, and one of each proposal");
        GrantAllocation y = Check.loaded("panel 1;" + "reviewer 0 1 10 topics 0;".repeat(12) + "proposal 0 2 0 1;".repeat(16));
        CHECK.same("reviews", y.assignAll(0), 32);
        for (int p = 0; p < 16; p++) {
            y.setScore(y.reviewerOf(p, 0), p, 1);
            y.setScore(y.reviewerOf(p, 1), p, 100);
        }
        for (int p = 0; p < 16; p++) {
            CHECK.same("granted", y.count(6), p);
            CHECK.same("appeal of " + p, y.appeal(y.reviewerOf(p, 0), p), true);
        }
        CHECK.same("all granted", y.count(6), 16);
        CHECK.same("their conflicts", y.count(5), 16);
        CHECK.same("their reviews are gone", y.count(3), 16);
    }

    // ---- promises 8 to 10

    private interface PairCall {
        Object of(int reviewer, int proposal);
    }

    /** Numbers beside those of 12 reviewers and 16 proposals, and of 2 and 3. */
    private static void nobody(String name, GrantAllocation x, PairCall call) {
        int reviewers = x.count(1);
        int proposals = x.count(2);
        CHECK.fails(name + ", reviewer " + reviewers, IndexOutOfBoundsException.class, () -> call.of(reviewers, 0));
        CHECK.fails(name + ", proposal " + proposals, IndexOutOfBoundsException.class, () -> call.of(0, proposals));
        CHECK.fails(name + ", both", IndexOutOfBoundsException.class, () -> call.of(reviewers, proposals));
        CHECK.fails(name + ", reviewer 16", IndexOutOfBoundsException.class, () -> call.of(16, 0));
        for (int wrong : WRONG) {
            CHECK.fails(name + ", reviewer " + wrong, IndexOutOfBoundsException.class, () -> call.of(wrong, 0));
            CHECK.fails(name + ", proposal " + wrong, IndexOutOfBoundsException.class, () -> call.of(0, wrong));
            CHECK.fails(name + ", both " + wrong, IndexOutOfBoundsException.class, () -> call.of(wrong, wrong));
        }
        CHECK.answers(name + ", the last ones", () -> call.of(reviewers - 1, proposals - 1));
        CHECK.answers(name + ", the first ones", () -> call.of(0, 0));
    }

    private static GrantAllocation few() {
        return Check.loaded("panel 1;reviewer 0 1 10 topics 0;reviewer 0 1 10 topics 0;" + "proposal 0 2 0 1;".repeat(3));
    }

    private static void isConflict() {
        CHECK.sentence("8: Throws IndexOutOfBoundsException if there is no such reviewer or proposal");
        GrantAllocation x = Check.loaded(FULL);
        GrantAllocation y = few();
        nobody("isConflict", x, (r, p) -> x.isConflict(r, p));
        nobody("isConflict", y, (r, p) -> y.isConflict(r, p));
    }

    private static void matchOfNobody() {
        CHECK.sentence("9: Throws IndexOutOfBoundsException if there is no such reviewer or proposal");
        GrantAllocation x = Check.loaded(FULL);
        GrantAllocation y = few();
        nobody("match", x, (r, p) -> x.match(r, p));
        nobody("match", y, (r, p) -> y.match(r, p));
    }

    private static void declare() {
        CHECK.sentence("10: Throws IndexOutOfBoundsException if there is no such reviewer or proposal");
        GrantAllocation x = Check.loaded(FULL);
        GrantAllocation y = few();
        nobody("declare", x, (r, p) -> x.declare(r, p));
        nobody("declare", y, (r, p) -> y.declare(r, p));
        CHECK.same("only the two that were right", x.count(5) * 10 + y.count(5), 22);
    }

    private static void declareAgain() {
        CHECK.sentence("10: Returns true; false if it was declared before (this is a change, too)");
        GrantAllocation x = Check.loaded("panel 1;panel 1;reviewer 0 1 9 topics 0;reviewer 0 1 9 topics 0;"
                + "proposal 0 1 0 1;proposal 0 2 0 1;proposal 1 3 0 1;conflict 1 0;");
        CHECK.same("the same institution is not declared", x.declare(0, 0), true);
        CHECK.same("now it is", x.declare(0, 0), false);
        CHECK.same("declared by the text", x.declare(1, 0), false);
        CHECK.same("another panel", x.declare(1, 2), true);
        CHECK.same("four changes", x.undo(), 3);
        CHECK.same("the last one is undone", x.count(5), 2);
        CHECK.same("declared by the text, undone", x.undo(), 2);
        CHECK.same("it stays declared", x.declare(1, 0), false);
        x.undo();
        CHECK.same("declared again, undone", x.undo(), 1);
        CHECK.same("it stays declared", x.count(5), 2);
        CHECK.same("declared, undone", x.undo(), 0);
        CHECK.same("it is not declared", x.declare(0, 0), true);
        Check.score(x, 0, 1, 1);
        Check.score(x, 1, 1, 100);
        x.appeal(1, 1);
        CHECK.same("declared by an appeal", x.declare(1, 1), false);
    }

    private static void declareAgainstAReview() {
        CHECK.sentence("10: Throws IllegalStateException if the reviewer has a review of the proposal");
        GrantAllocation x = few();
        x.assign(1, 2);
        CHECK.fails("without a score", IllegalStateException.class, () -> x.declare(1, 2));
        x.setScore(1, 2, 100);
        CHECK.fails("with a score", IllegalStateException.class, () -> x.declare(1, 2));
        CHECK.same("nothing was declared", x.count(5), 0);
        CHECK.same("the review of another reviewer", x.declare(0, 2), true);
        CHECK.same("a review of another proposal", x.declare(1, 1), true);
        x.unassign(1, 2);
        CHECK.same("a review no more", x.declare(1, 2), true);
        CHECK.same("the refused calls are no changes", x.undo(), 5);
    }
}
