import java.util.NoSuchElementException;

/** Promises 34 and 35: appeal and undo. */
public final class ChangeTest {
    private static final Check CHECK = new Check();
    private static final int FAR = Integer.MAX_VALUE;

    public static void main(String[] args) {
        appealOfTwo();
        appealOfThree();
        limits();
        refusedAppeals();
        undoOfEachKind();
        undoOfTen();
        undoThenChange();
        CHECK.end();
    }

    private static GrantAllocation scored(String settings, int... scores) {
        GrantAllocation x = Check.loaded("panel 100;reviews 4;" + settings + "reviewer 0 1 9 topics 0;".repeat(4)
                + "proposal 0 2 0 10;proposal 0 2 0 10;");
        for (int r = 0; r < scores.length; r++) {
            x.assign(r, 0);
            if (scores[r] != 0) {
                x.setScore(r, 0, scores[r]);
            }
        }
        return x;
    }

    private static void appealOfTwo() {
        GrantAllocation x = scored("", 50, 70);
        CHECK.same("20 is not more than 20", x.appeal(1, 0), false);
        CHECK.same("no appeal was granted", x.count(6), 0);
        CHECK.same("a refused appeal is no change", x.undo(), 3);
        GrantAllocation y = scored("", 50, 71, 0);
        CHECK.same("21", y.appeal(1, 0), true);
        CHECK.same("granted", y.count(6), 1);
        CHECK.same("the review is removed", y.count(3) * 10 + y.count(4), 21);
        CHECK.same("a conflict is declared", y.count(5), 1);
        CHECK.same("a conflict is declared", y.isConflict(1, 0), true);
        CHECK.fails("the review is removed", NoSuchElementException.class, () -> y.unassign(1, 0));
        CHECK.fails("and cannot come back", IllegalArgumentException.class, () -> y.assign(1, 0));
        CHECK.same("undo", y.undo(), 5);
        CHECK.same("the appeal is undone", y.count(6) + y.count(5), 0);
        CHECK.same("the score is back", y.unassign(1, 0), 71);
    }

    private static void appealOfThree() {
        CHECK.same("|2 * 71 - 101| = 41", scored("", 50, 51, 71).appeal(2, 0), true);
        CHECK.same("|2 * 70 - 101| = 39", scored("", 50, 51, 70).appeal(2, 0), false);
        CHECK.same("|2 * 30 - 101| = 41", scored("", 50, 51, 30).appeal(2, 0), true);
        CHECK.same("|2 * 31 - 101| = 39", scored("", 50, 51, 31).appeal(2, 0), false);
        CHECK.same("|2 * 70 - 100| = 40", scored("", 50, 50, 70).appeal(2, 0), false);
        CHECK.same("a review without a score is no other score", scored("", 50, 0, 71).appeal(2, 0), true);
        CHECK.same("|3 * 60 - 119| = 61", scored("", 39, 40, 40, 60).appeal(3, 0), true);
        CHECK.same("|3 * 60 - 120| = 60", scored("", 40, 40, 40, 60).appeal(3, 0), false);
    }

    private static void limits() {
        CHECK.same("limit 0, equal", scored("limit 0;", 50, 50).appeal(0, 0), false);
        CHECK.same("limit 0, 1 more", scored("limit 0;", 50, 51).appeal(0, 0), true);
        CHECK.same("limit 98", scored("limit 98;", 1, 100).appeal(0, 0), true);
        CHECK.same("limit 99", scored("limit 99;", 1, 100).appeal(0, 0), false);
        CHECK.same("the last limit counts", scored("limit 99;limit 30;", 1, 32).appeal(1, 0), true);
    }

    private static void refusedAppeals() {
        GrantAllocation x = scored("", 10, 90, 50, 0);
        CHECK.fails("no score", NoSuchElementException.class, () -> x.appeal(3, 0));
        CHECK.fails("no review", NoSuchElementException.class, () -> x.appeal(0, 1));
        for (int r : new int[] {-1, 4, 12, FAR}) {
            CHECK.fails("reviewer " + r, IndexOutOfBoundsException.class, () -> x.appeal(r, 0));
        }
        for (int p : new int[] {-1, 2, 16, FAR}) {
            CHECK.fails("proposal " + p, IndexOutOfBoundsException.class, () -> x.appeal(0, p));
        }
        CHECK.same("granted", x.appeal(0, 0), true);
        CHECK.fails("a second appeal", IllegalStateException.class, () -> x.appeal(1, 0));
        CHECK.fails("a second one that would not be granted", IllegalStateException.class, () -> x.appeal(2, 0));
        CHECK.fails("a second one without a score", NoSuchElementException.class, () -> x.appeal(3, 0));
        CHECK.fails("a second one without the review", NoSuchElementException.class, () -> x.appeal(0, 0));
        x.undo();
        CHECK.same("another one after undo", x.appeal(1, 0), true);
        x.assign(0, 1);
        x.setScore(0, 1, 10);
        CHECK.fails("no other score", IllegalStateException.class, () -> x.appeal(0, 1));
        x.assign(1, 1);
        CHECK.fails("another review without a score", IllegalStateException.class, () -> x.appeal(0, 1));
        x.setScore(1, 1, 90);
        CHECK.same("an appeal of another proposal", x.appeal(0, 1), true);
        CHECK.same("two are granted", x.count(6), 2);
    }

    private static void undoOfEachKind() {
        GrantAllocation x = scored("", 10, 90);
        x.declare(2, 0);
        CHECK.same("undo declare", x.undo(), 4);
        CHECK.same("undo declare", x.isConflict(2, 0), false);
        x.assign(2, 1);
        CHECK.same("undo assign", x.undo(), 4);
        CHECK.same("undo assign", x.count(3), 2);
        x.unassign(1, 0);
        CHECK.same("undo unassign", x.undo(), 4);
        CHECK.same("undo unassign", x.reviewerOf(0, 1), 1);
        CHECK.same("undo unassign with its score", x.setScore(1, 0, 30), 90);
        CHECK.same("undo setScore", x.undo(), 4);
        CHECK.same("undo setScore", x.setScore(1, 0, 30), 90);
        x.undo();
        CHECK.same("assignAll", x.assignAll(0), 6);
        CHECK.same("undo assignAll", x.undo(), 4);
        CHECK.same("undo assignAll", x.count(3), 2);
        x.setLine(60000);
        CHECK.same("undo setLine", x.undo(), 4);
        CHECK.same("undo setLine", x.setLine(0), 0);
        x.appeal(1, 0);
        CHECK.same("undo appeal", x.undo(), 5);
        CHECK.same("undo appeal", x.count(3) * 100 + x.count(4) * 10 + x.count(5) + x.count(6), 220);
        CHECK.same("4", x.undo(), 4);
        CHECK.same("3", x.undo(), 3);
        CHECK.same("2", x.undo(), 2);
        CHECK.same("1", x.undo(), 1);
        CHECK.same("0", x.undo(), 0);
        CHECK.fails("none is left", IllegalStateException.class, () -> x.undo());
        CHECK.fails("none is left", IllegalStateException.class, () -> x.undo());
        CHECK.same("as loaded", x.count(3), 0);
    }

    private static void undoOfTen() {
        GrantAllocation x = new GrantAllocation();
        for (int line = 1; line <= 25; line++) {
            x.setLine(line);
        }
        for (int due = 9; due >= 0; due--) {
            CHECK.same("undo", x.undo(), due);
        }
        CHECK.fails("an eleventh", IllegalStateException.class, () -> x.undo());
        CHECK.same("fifteen changes stay", x.setLine(0), 15);
        CHECK.same("one can be undone", x.undo(), 0);
        CHECK.same("fifteen changes stay", x.setLine(0), 15);
    }

    private static void undoThenChange() {
        GrantAllocation x = new GrantAllocation();
        for (int line = 1; line <= 11; line++) {
            x.setLine(line);
        }
        x.undo();
        x.undo();
        x.setLine(50);
        CHECK.same("nine are left", x.undo(), 8);
        CHECK.same("50 is undone", x.setLine(60), 9);
        for (int due = 8; due >= 0; due--) {
            CHECK.same("undo", x.undo(), due);
        }
        CHECK.same("the first change stays", x.setLine(0), 1);
    }
}
