/** Promises 7 to 10: count, isConflict, match, declare. */
public final class SetupTest {
    private static final Check CHECK = new Check();
    private static final int FAR = Integer.MAX_VALUE;

    public static void main(String[] args) {
        count();
        isConflict();
        match();
        declare();
        CHECK.end();
    }

    private static GrantAllocation two() {
        return Check.loaded("panel 500;panel 600;"
                + "reviewer 0 1 5 topics 3;reviewer 0 2 5 topics 0;reviewer 1 3 5 topics 7;"
                + "proposal 0 2 3 100;proposal 0 4 4 100;proposal 1 3 6 100;proposal 1 1 0 100;conflict 0 1;");
    }

    private static void count() {
        GrantAllocation x = two();
        CHECK.same("panels", x.count(0), 2);
        CHECK.same("reviewers", x.count(1), 3);
        CHECK.same("proposals", x.count(2), 4);
        CHECK.same("reviews", x.count(3), 0);
        CHECK.same("scores", x.count(4), 0);
        CHECK.same("declared conflicts", x.count(5), 1);
        CHECK.same("appeals", x.count(6), 0);
        x.assign(0, 0);
        x.assign(1, 1);
        x.setScore(1, 1, 1);
        CHECK.same("reviews with and without a score", x.count(3), 2);
        CHECK.same("one score", x.count(4), 1);
        x.declare(2, 0);
        CHECK.same("a conflict more", x.count(5), 2);
        for (int what : new int[] {-1, 7, FAR, Integer.MIN_VALUE}) {
            CHECK.fails("count " + what, IllegalArgumentException.class, () -> x.count(what));
        }
    }

    private static void isConflict() {
        GrantAllocation x = two();
        CHECK.same("nothing in common", x.isConflict(0, 0), false);
        CHECK.same("declared by the text", x.isConflict(0, 1), true);
        CHECK.same("same institution", x.isConflict(1, 0), true);
        CHECK.same("same institution in another panel", x.isConflict(0, 3), true);
        CHECK.same("another panel alone", x.isConflict(2, 0), false);
        x.declare(2, 0);
        CHECK.same("declared", x.isConflict(2, 0), true);
        wrongPairs("isConflict", (r, p) -> x.isConflict(r, p));
    }

    private static void match() {
        GrantAllocation x = Check.loaded("panel 1;reviewer 0 1 1 topics 0;reviewer 0 1 1 topics 7;"
                + "reviewer 0 1 1 topics 5 2 2;reviewer 0 1 1 topics 3 4;"
                + "proposal 0 1 0 1;proposal 0 1 1 1;proposal 0 1 2 1;proposal 0 1 3 1;"
                + "proposal 0 1 4 1;proposal 0 1 5 1;proposal 0 1 6 1;proposal 0 1 7 1;");
        String[] due = {"21000000", "00000012", "01211210", "00122100"};
        for (int r = 0; r < due.length; r++) {
            for (int p = 0; p < 8; p++) {
                CHECK.same("match " + r + " " + p, x.match(r, p), due[r].charAt(p) - '0');
            }
        }
        CHECK.same("match over panels", two().match(2, 2), 1);
        CHECK.same("match over panels", two().match(1, 3), 2);
        wrongPairs("match", (r, p) -> two().match(r, p));
    }

    private static void declare() {
        GrantAllocation x = two();
        CHECK.same("declare", x.declare(0, 0), true);
        CHECK.same("declare again", x.declare(0, 0), false);
        CHECK.same("declare what the text declared", x.declare(0, 1), false);
        CHECK.same("declare where the institution is the same", x.declare(1, 0), true);
        CHECK.same("declare in another panel", x.declare(2, 0), true);
        CHECK.same("declared", x.count(5), 4);
        CHECK.same("all five were changes", x.undo(), 4);
        CHECK.same("undone", x.count(5), 3);
        x.undo();
        x.undo();
        x.undo();
        CHECK.same("the second one changed nothing", x.isConflict(0, 0), true);
        CHECK.same("the first one", x.undo(), 0);
        CHECK.same("the text's stays", x.count(5), 1);
        x.assign(1, 1);
        CHECK.fails("declare against a review", IllegalStateException.class, () -> x.declare(1, 1));
        CHECK.same("nothing was declared", x.isConflict(1, 1), false);
        x.setScore(1, 1, 9);
        CHECK.fails("declare against a scored review", IllegalStateException.class, () -> x.declare(1, 1));
        CHECK.same("a failed call is no change", x.undo(), 1);
        x.unassign(1, 1);
        CHECK.same("declare without the review", x.declare(1, 1), true);
        wrongPairs("declare", (r, p) -> x.declare(r, p));
    }

    private interface PairCall {
        Object of(int reviewer, int proposal);
    }

    private static void wrongPairs(String name, PairCall call) {
        int[][] pairs = {{-1, 0}, {3, 0}, {8, 0}, {FAR, 0}, {0, -1}, {0, 8}, {0, FAR}, {Integer.MIN_VALUE, -1}};
        for (int[] pair : pairs) {
            CHECK.fails(name + " " + pair[0] + " " + pair[1], IndexOutOfBoundsException.class,
                    () -> call.of(pair[0], pair[1]));
        }
    }
}
