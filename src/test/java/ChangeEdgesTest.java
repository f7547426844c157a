import java.util.NoSuchElementException;

/** The boundary cases of CHANGES and of promises 34 and 35, a test for each sentence. */
public final class ChangeEdgesTest {
    private static final Check CHECK = new Check();

    public static void main(String[] args) {
        theChanges();
        whatIsNoChange();
        lastTen();
        sinceLoading();
        latestFirst();
        changesAfterUndo();
        appealAtTheLimit();
        appealAtTheEndsOfTheLimit();
        grantedAppeal();
        appealNotGranted();
        appealThrows();
        appealWithoutOthers();
        appealGrantedBefore();
        undoReturns();
        undoThrows();
        CHECK.end();
    }

    /** Four reviewers and two proposals, the scores of proposal 0; 0 stands for a review without a score. */
    private static GrantAllocation scored(String settings, int... scores) {
        GrantAllocation x = Check.loaded("panel 100;reviews 4;" + settings + "reviewer 0 1 9 topics 0;".repeat(5)
                + "proposal 0 2 0 10;proposal 0 2 0 10;");
        for (int r = 0; r < scores.length; r++) {
            x.assign(r, 0);
            if (scores[r] != 0) {
                x.setScore(r, 0, scores[r]);
            }
        }
        return x;
    }

    // ---- CHANGES

    private interface Change {
        Object on(GrantAllocation x);
    }

    private static void oneChange(String name, Change change) {
        GrantAllocation x = scored("", 10, 90);
        String before = Snapshot.of(x);
        change.on(x);
        CHECK.same(name + " is one change", x.undo(), 4);
        CHECK.same(name + " is undone", Snapshot.of(x), before);
        CHECK.same(name + " is undone with the line", x.setLine(0), 0);
    }

    private static void theChanges() {
        CHECK.sentence("CHANGES: The changes are successful calls of declare, assign, unassign, assignAll, setScore, appeal"
                + " and setLine");
        oneChange("declare", x -> x.declare(4, 1));
        oneChange("assign", x -> x.assign(4, 1));
        oneChange("unassign", x -> x.unassign(0, 0));
        oneChange("assignAll", x -> x.assignAll(0));
        oneChange("setScore", x -> x.setScore(0, 0, 11));
        oneChange("setScore of the same score", x -> x.setScore(0, 0, 10));
        oneChange("setScore of none", x -> x.setScore(0, 0, -1));
        oneChange("appeal", x -> x.appeal(0, 0));
        oneChange("setLine", x -> x.setLine(60000));
        oneChange("setLine of the same line", x -> x.setLine(0));
    }

    private static void whatIsNoChange() {
        CHECK.sentence("CHANGES: The changes are successful calls of ...: no other call is one");
        GrantAllocation x = scored("", 10, 20);
        x.append(0, 0, 0, 0, 0);
        x.truncate(0);
        Snapshot.of(x);
        CHECK.same("an appeal that is not granted", x.appeal(0, 0), false);
        CHECK.fails("declare", IllegalStateException.class, () -> x.declare(0, 0));
        CHECK.fails("assign", IllegalStateException.class, () -> x.assign(0, 0));
        CHECK.fails("unassign", NoSuchElementException.class, () -> x.unassign(2, 0));
        CHECK.fails("assignAll", IndexOutOfBoundsException.class, () -> x.assignAll(1));
        CHECK.fails("setScore", IllegalArgumentException.class, () -> x.setScore(0, 0, 0));
        CHECK.fails("setLine", IllegalArgumentException.class, () -> x.setLine(-1));
        CHECK.fails("appeal", NoSuchElementException.class, () -> x.appeal(2, 0));
        CHECK.same("two reviews and two scores", x.undo(), 3);
        CHECK.same("an undo is none", x.undo(), 2);
        CHECK.same("an undo is none", x.undo(), 1);
    }

    private static GrantAllocation lines(int changes) {
        GrantAllocation x = new GrantAllocation();
        for (int line = 1; line <= changes; line++) {
            x.setLine(line);
        }
        return x;
    }

    private static void lastTen() {
        CHECK.sentence("CHANGES: The last 10 changes since loading can be undone");
        for (int changes = 0; changes <= 32; changes++) {
            GrantAllocation x = lines(changes);
            int most = Math.min(10, changes);
            for (int due = most - 1; due >= 0; due--) {
                CHECK.same("undo after " + changes + " changes", x.undo(), due);
            }
            CHECK.fails("one more after " + changes + " changes", IllegalStateException.class, () -> x.undo());
            CHECK.same("the changes before them stay", x.setLine(0), changes - most);
        }
        // Changes of different kinds count together.
        GrantAllocation y = scored("", 10, 90, 50);
        y.declare(4, 0);
        y.setLine(5);
        y.assignAll(0);
        y.appeal(0, 0);
        y.unassign(1, 0);
        for (int due = 9; due >= 0; due--) {
            CHECK.same("undo of eleven", y.undo(), due);
        }
        CHECK.fails("the eleventh", IllegalStateException.class, () -> y.undo());
        CHECK.same("it stays", y.reviewerOf(0, 0), 0);
    }

    private static void sinceLoading() {
        CHECK.sentence("CHANGES: since loading");
        GrantAllocation x = lines(12);
        x.load();
        CHECK.fails("loaded", IllegalStateException.class, () -> x.undo());
        x.setLine(3);
        CHECK.same("one change since", x.undo(), 0);
        CHECK.fails("no change before", IllegalStateException.class, () -> x.undo());
        CHECK.same("the line as loaded", x.setLine(0), 0);
        GrantAllocation y = lines(12);
        Check.type(y, "bad");
        CHECK.fails("not loaded", IllegalArgumentException.class, () -> y.load());
        CHECK.same("ten changes stay", y.undo(), 9);
        // Ten changes, a loading, ten changes: the rows of the first ten are used again.
        GrantAllocation z = lines(10);
        z.load();
        for (int line = 101; line <= 113; line++) {
            z.setLine(line);
        }
        for (int due = 9; due >= 0; due--) {
            CHECK.same("undo", z.undo(), due);
        }
        CHECK.same("three stay", z.setLine(0), 103);
    }

    private static void latestFirst() {
        CHECK.sentence("CHANGES: the latest one first");
        GrantAllocation x = Check.loaded("panel 100;reviews 4;" + "reviewer 0 1 9 topics 0;".repeat(5) + "proposal 0 2 0 10;");
        String[] due = new String[7];
        due[0] = Snapshot.of(x);
        x.assignAll(0);
        due[1] = Snapshot.of(x);
        x.setScore(0, 0, 1);
        due[2] = Snapshot.of(x);
        x.setScore(1, 0, 100);
        due[3] = Snapshot.of(x);
        x.appeal(0, 0);
        due[4] = Snapshot.of(x);
        x.declare(4, 0);
        due[5] = Snapshot.of(x);
        x.unassign(1, 0);
        due[6] = Snapshot.of(x);
        x.assign(1, 0);
        for (int i = 6; i >= 0; i--) {
            CHECK.same("changes", x.undo(), i);
            CHECK.same("as before change " + i, Snapshot.of(x), due[i]);
        }
    }

    private static void changesAfterUndo() {
        CHECK.sentence("35: Undoes the latest change that has not been undone");
        GrantAllocation x = lines(3);
        x.undo();
        x.setLine(50);
        x.undo();
        CHECK.same("50 is undone, and 3 stays undone", x.setLine(60), 2);
        x.undo();
        x.undo();
        CHECK.same("60 and 2 are undone", x.setLine(70), 1);
        // Round the ten rows: full, some undone, full again.
        GrantAllocation y = lines(14);
        for (int n = 0; n < 7; n++) {
            y.undo();
        }
        for (int line = 101; line <= 108; line++) {
            y.setLine(line);
        }
        for (int due = 9; due >= 2; due--) {
            CHECK.same("the new ones", y.undo(), due);
        }
        CHECK.same("two of the old ones", y.undo() * 10 + y.undo(), 10);
        CHECK.same("the others stay", y.setLine(0), 5);
    }

    // ---- promise 34

    private static void appealAtTheLimit() {
        CHECK.sentence("34: The appeal is granted if |k * x - T| is greater than k * limit");
        CHECK.same("1 other, 20 above", scored("", 50, 70).appeal(1, 0), false);
        CHECK.same("1 other, 21 above", scored("", 50, 71).appeal(1, 0), true);
        CHECK.same("1 other, 20 below", scored("", 50, 70).appeal(0, 0), false);
        CHECK.same("1 other, 21 below", scored("", 50, 71).appeal(0, 0), true);
        CHECK.same("2 others, 40 above", scored("", 49, 51, 70).appeal(2, 0), false);
        CHECK.same("2 others, 41 above", scored("", 49, 50, 70).appeal(2, 0), true);
        CHECK.same("2 others, 40 below", scored("", 49, 51, 30).appeal(2, 0), false);
        CHECK.same("2 others, 41 below", scored("", 50, 51, 30).appeal(2, 0), true);
        CHECK.same("3 others, 60 above", scored("", 48, 50, 52, 70).appeal(3, 0), false);
        CHECK.same("3 others, 61 above", scored("", 48, 50, 51, 70).appeal(3, 0), true);
        CHECK.same("3 others, 60 below", scored("", 48, 50, 52, 30).appeal(3, 0), false);
        CHECK.same("3 others, 61 below", scored("", 48, 50, 53, 30).appeal(3, 0), true);
        CHECK.same("the first of three", scored("", 71, 50, 50).appeal(0, 0), true);
        CHECK.same("the middle of three", scored("", 50, 71, 50).appeal(1, 0), true);
        CHECK.same("a review without a score is no other score", scored("", 50, 71, 0, 0).appeal(1, 0), true);
        GrantAllocation x = scored("", 50, 70);
        Check.score(x, 2, 1, 1);
        CHECK.same("nor is a score of another proposal", x.appeal(1, 0), false);
    }

    private static void appealAtTheEndsOfTheLimit() {
        CHECK.sentence("34: if the score differs from the mean of the other scores of the proposal by more than the appeal"
                + " limit");
        CHECK.same("limit 0, equal", scored("limit 0;", 50, 50).appeal(0, 0), false);
        CHECK.same("limit 0, one apart", scored("limit 0;", 50, 51).appeal(0, 0), true);
        CHECK.same("limit 0, a third apart", scored("limit 0;", 50, 50, 50, 51).appeal(0, 0), true);
        CHECK.same("limit 0, at the mean", scored("limit 0;", 49, 51, 50).appeal(2, 0), false);
        CHECK.same("limit 99, as far as can be", scored("limit 99;", 1, 100).appeal(1, 0), false);
        CHECK.same("limit 99, of four", scored("limit 99;", 1, 1, 1, 100).appeal(3, 0), false);
        CHECK.same("limit 98, as far as can be", scored("limit 98;", 1, 100).appeal(1, 0), true);
        CHECK.same("limit 98, one less", scored("limit 98;", 2, 100).appeal(1, 0), false);
    }

    private static void grantedAppeal() {
        CHECK.sentence("34: If it is granted, the review is removed, and a conflict of the reviewer with the proposal is"
                + " declared");
        GrantAllocation x = scored("", 1, 90, 91, 92);
        CHECK.fails("no room for a fifth", IllegalStateException.class, () -> x.assign(4, 0));
        CHECK.same("granted", x.appeal(0, 0), true);
        CHECK.same("reviews, scores, conflicts, appeals", "" + x.count(3) + x.count(4) + x.count(5) + x.count(6), "3311");
        CHECK.same("the load", x.loadOf(0), 0);
        CHECK.same("the first reviewer", x.reviewerOf(0, 0), 1);
        CHECK.same("the conflict", x.isConflict(0, 0), true);
        CHECK.same("with this proposal alone", x.isConflict(0, 1), false);
        CHECK.same("declared before", x.declare(0, 0), false);
        CHECK.fails("it cannot be assigned again", IllegalArgumentException.class, () -> x.assign(0, 0));
        CHECK.same("there is room for another one", x.assign(4, 0), 4);
        x.undo();
        x.undo();
        CHECK.same("one change", x.undo(), 7);
        CHECK.same("all of it is undone", "" + x.count(3) + x.count(4) + x.count(5) + x.count(6), "4400");
        CHECK.same("with its score", x.unassign(0, 0), 1);
    }

    private static void appealNotGranted() {
        CHECK.sentence("34: An appeal that is not granted changes nothing and is no change");
        GrantAllocation x = scored("", 40, 50, 60);
        String before = Snapshot.of(x);
        for (int r = 0; r < 3; r++) {
            CHECK.same("not granted", x.appeal(r, 0), false);
            CHECK.same("nothing changes", Snapshot.of(x), before);
        }
        CHECK.same("no change", x.undo(), 5);
        CHECK.same("it was the score that was undone", x.count(4), 2);
        x.setScore(2, 0, 100);
        CHECK.same("it is no appeal that was granted before", x.appeal(2, 0), true);
    }

    private static void appealThrows() {
        CHECK.sentence("34: Throws IndexOutOfBoundsException if there is no such reviewer or proposal");
        GrantAllocation x = scored("", 1, 100, 0);
        for (int r : new int[] {-1, 5, 12, Integer.MIN_VALUE, Integer.MAX_VALUE}) {
            CHECK.fails("reviewer " + r, IndexOutOfBoundsException.class, () -> x.appeal(r, 0));
        }
        for (int p : new int[] {-1, 2, 16, Integer.MIN_VALUE, Integer.MAX_VALUE}) {
            CHECK.fails("proposal " + p, IndexOutOfBoundsException.class, () -> x.appeal(0, p));
        }
        CHECK.sentence("34: Throws NoSuchElementException if there is no such review, or if it has no score");
        CHECK.fails("no review", NoSuchElementException.class, () -> x.appeal(3, 0));
        CHECK.fails("no review of this proposal", NoSuchElementException.class, () -> x.appeal(0, 1));
        CHECK.fails("no score", NoSuchElementException.class, () -> x.appeal(2, 0));
        x.setScore(0, 0, -1);
        CHECK.fails("no score any more", NoSuchElementException.class, () -> x.appeal(0, 0));
    }

    private static void appealWithoutOthers() {
        CHECK.sentence("34: Throws IllegalStateException if the proposal has no other scores");
        GrantAllocation x = scored("", 100);
        CHECK.fails("no other review", IllegalStateException.class, () -> x.appeal(0, 0));
        x.assign(1, 0);
        CHECK.fails("another review without a score", IllegalStateException.class, () -> x.appeal(0, 0));
        x.setScore(1, 0, 100);
        CHECK.same("another score", x.appeal(0, 0), false);
        x.setScore(1, 0, -1);
        CHECK.fails("its score removed", IllegalStateException.class, () -> x.appeal(0, 0));
        GrantAllocation y = scored("limit 99;", 100);
        CHECK.fails("with the greatest limit, too", IllegalStateException.class, () -> y.appeal(0, 0));
    }

    private static void appealGrantedBefore() {
        CHECK.sentence("34: Throws IllegalStateException if an appeal of this proposal was granted before");
        GrantAllocation x = scored("", 1, 100, 50, 51);
        Check.score(x, 0, 1, 1);
        Check.score(x, 1, 1, 100);
        CHECK.same("the first", x.appeal(0, 0), true);
        CHECK.fails("one that would be granted", IllegalStateException.class, () -> x.appeal(1, 0));
        CHECK.fails("one that would not be", IllegalStateException.class, () -> x.appeal(3, 0));
        CHECK.same("of another proposal", x.appeal(1, 1), true);
        CHECK.same("two", x.count(6), 2);
        x.undo();
        CHECK.same("one", x.count(6), 1);
        x.undo();
        CHECK.same("after undo it was not granted before", x.appeal(1, 0), true);
        CHECK.same("one", x.count(6), 1);
        appealOfEachGrantedBefore();
        // After loading, too.
        Check.type(x, "panel 1;reviewer 0 1 9 topics 0;reviewer 0 1 9 topics 0;proposal 0 2 0 1;");
        x.load();
        Check.score(x, 0, 0, 1);
        Check.score(x, 1, 0, 100);
        CHECK.same("after loading it was not granted before", x.appeal(1, 0), true);
    }

    private static void appealOfEachGrantedBefore() {
        GrantAllocation x = Check.loaded("panel 1;reviews 3;" + "reviewer 0 1 10 topics 0;".repeat(12)
                + "proposal 0 2 0 1;".repeat(16));
        x.assignAll(0);
        for (int p = 0; p < 16; p++) {
            int proposal = p;
            x.setScore(x.reviewerOf(p, 0), p, 1);
            x.setScore(x.reviewerOf(p, 1), p, 100);
            x.setScore(x.reviewerOf(p, 2), p, 50);
            CHECK.same("the first of " + p, x.appeal(x.reviewerOf(p, 0), p), true);
            CHECK.fails("the second of " + p, IllegalStateException.class, () -> x.appeal(x.reviewerOf(proposal, 0), proposal));
        }
    }

    // ---- promise 35

    private static void undoReturns() {
        CHECK.sentence("35: Returns the number of changes that can still be undone");
        CHECK.same("one of one", lines(1).undo(), 0);
        CHECK.same("one of two", lines(2).undo(), 1);
        CHECK.same("one of ten", lines(10).undo(), 9);
        CHECK.same("one of eleven", lines(11).undo(), 9);
        CHECK.same("one of five hundred", lines(500).undo(), 9);
    }

    private static void undoThrows() {
        CHECK.sentence("35: Throws IllegalStateException if there is none");
        GrantAllocation x = new GrantAllocation();
        CHECK.fails("a new object", IllegalStateException.class, () -> x.undo());
        x.setLine(1);
        x.undo();
        CHECK.fails("the only one is undone", IllegalStateException.class, () -> x.undo());
        CHECK.fails("again", IllegalStateException.class, () -> x.undo());
        x.setLine(2);
        CHECK.same("the refused calls do no harm", x.undo(), 0);
        GrantAllocation y = Check.loaded("panel 1;");
        CHECK.fails("a loaded object", IllegalStateException.class, () -> y.undo());
        CHECK.same("it stays as it is", y.count(0), 1);
    }
}
