import java.util.NoSuchElementException;

/** Promises 24 to 26: rank, ranked, tieRound. */
public final class RankingTest {
    private static final Check CHECK = new Check();
    private static final int FAR = Integer.MAX_VALUE;

    public static void main(String[] args) {
        ties();
        byNormalizedScores();
        unranked();
        CHECK.end();
    }

    /** Each reviewer scores once, so all normalized scores are 50000. */
    private static GrantAllocation tied() {
        GrantAllocation x = Check.loaded("panel 1;panel 1;" + "reviewer 0 1 1 topics 0;".repeat(10)
                + "reviewer 1 1 1 topics 0;".repeat(2)
                + "proposal 0 2 0 100;".repeat(3) + "proposal 0 2 0 99;proposal 0 2 0 100;proposal 1 2 0 50;proposal 1 2 0 50;");
        int[][] scores = {{60, 79}, {60, 80}, {61, 61}, {60, 79}, {60, 79}, {60, 80}};
        for (int p = 0; p < scores.length; p++) {
            for (int k = 0; k < 2; k++) {
                x.assign(2 * p + k, p);
                x.setScore(2 * p + k, p, scores[p][k]);
            }
        }
        return x;
    }

    private static void ties() {
        GrantAllocation x = tied();
        int[] panel = {2, 1, 3, 0, 4};
        for (int i = 0; i < panel.length; i++) {
            CHECK.same("rank of " + panel[i], x.rank(panel[i]), i);
            CHECK.same("ranked " + i, x.ranked(0, i), panel[i]);
        }
        CHECK.same("rank in the other panel", x.rank(5), 0);
        CHECK.same("ranked in the other panel", x.ranked(1, 0), 5);
        int[] all = {2, 5, 1, 3, 0, 4};
        for (int i = 0; i < all.length; i++) {
            CHECK.same("ranked in all " + i, x.ranked(-1, i), all[i]);
        }
        int[][] rounds = {{2, 0, 1}, {2, 1, 1}, {1, 0, 2}, {1, 3, 2}, {5, 4, 2}, {3, 0, 3}, {5, 1, 3}, {0, 4, 4}};
        for (int[] due : rounds) {
            CHECK.same("tieRound " + due[0] + " " + due[1], x.tieRound(due[0], due[1]), due[2]);
            CHECK.same("tieRound " + due[1] + " " + due[0], x.tieRound(due[1], due[0]), due[2]);
        }
        x.setScore(4, 2, 100);
        CHECK.same("79 is not at least 80", x.tieRound(1, 0), 2);
        x.setScore(1, 0, 80);
        CHECK.same("80 is", x.tieRound(1, 0), 4);
        CHECK.same("now 0 is before 1", x.rank(0), 1);
    }

    private static void byNormalizedScores() {
        GrantAllocation x = Check.loaded("panel 1;reviewer 0 1 9 topics 0;reviewer 0 1 9 topics 0;"
                + "proposal 0 2 0 9;proposal 0 2 0 1;proposal 0 2 0 1;proposal 0 2 0 1;");
        int[] scores = {50, 10, 90, 30};
        for (int p = 0; p < 4; p++) {
            x.assign(0, p);
            x.setScore(0, p, scores[p]);
        }
        int[] due = {2, 0, 3, 1};
        for (int i = 0; i < 4; i++) {
            CHECK.same("ranked " + i, x.ranked(0, i), due[i]);
            CHECK.same("rank " + due[i], x.rank(due[i]), i);
        }
        CHECK.same("tieRound", x.tieRound(0, 1), 0);
        x.setScore(0, 1, 50);
        CHECK.same("the same score", x.tieRound(0, 1), 3);
        CHECK.same("the smaller amount", x.rank(1) * 10 + x.rank(0), 12);
        x.setScore(0, 2, -1);
        CHECK.same("a rank is free", x.rank(1), 0);
    }

    private static void unranked() {
        GrantAllocation x = tied();
        CHECK.fails("rank", NoSuchElementException.class, () -> x.rank(6));
        CHECK.fails("tieRound", NoSuchElementException.class, () -> x.tieRound(0, 6));
        CHECK.fails("tieRound", NoSuchElementException.class, () -> x.tieRound(6, 0));
        CHECK.fails("tieRound of the same unranked", IllegalArgumentException.class, () -> x.tieRound(6, 6));
        CHECK.fails("tieRound of the same", IllegalArgumentException.class, () -> x.tieRound(1, 1));
        CHECK.fails("tieRound of the same that is none", IndexOutOfBoundsException.class, () -> x.tieRound(7, 7));
        for (int p : new int[] {-1, 7, 16, FAR}) {
            CHECK.fails("rank " + p, IndexOutOfBoundsException.class, () -> x.rank(p));
            CHECK.fails("tieRound a " + p, IndexOutOfBoundsException.class, () -> x.tieRound(p, 6));
            CHECK.fails("tieRound b " + p, IndexOutOfBoundsException.class, () -> x.tieRound(6, p));
        }
        for (int panel : new int[] {-2, 2, 4, FAR, Integer.MIN_VALUE}) {
            CHECK.fails("ranked panel " + panel, IndexOutOfBoundsException.class, () -> x.ranked(panel, 0));
        }
        for (int rank : new int[] {-1, 5, FAR, Integer.MIN_VALUE}) {
            CHECK.fails("ranked rank " + rank, IndexOutOfBoundsException.class, () -> x.ranked(0, rank));
        }
        CHECK.fails("ranked 1 of the other panel", IndexOutOfBoundsException.class, () -> x.ranked(1, 1));
        CHECK.fails("ranked 6 in all", IndexOutOfBoundsException.class, () -> x.ranked(-1, 6));
        CHECK.fails("ranked -1 in all", IndexOutOfBoundsException.class, () -> x.ranked(-1, -1));
    }
}
