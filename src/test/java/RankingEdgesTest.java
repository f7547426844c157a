import java.util.NoSuchElementException;

/** The boundary cases of RANKING and of promises 24 to 26, a test for each sentence. */
public final class RankingEdgesTest {
    private static final Check CHECK = new Check();
    private static final int[] NO_PROPOSAL = {-1, 16, 17, Integer.MIN_VALUE, Integer.MAX_VALUE};

    public static void main(String[] args) {
        whoIsRanked();
        byNormalizedScore();
        byLeastScore();
        byHighScores();
        byRequestedAmount();
        byNumber();
        inAll();
        rank();
        ranked();
        tieRound();
        CHECK.end();
    }

    /** Proposals with these amounts; each reviewer gives one score, so that all normalized scores are 50000. */
    private static GrantAllocation tied(int[] amounts, int[]... scores) {
        StringBuilder text = new StringBuilder("panel 1;reviews 4;" + "reviewer 0 1 1 topics 0;".repeat(12));
        for (int amount : amounts) {
            text.append("proposal 0 2 0 ").append(amount).append(';');
        }
        GrantAllocation x = Check.loaded(text.toString());
        int reviewer = 0;
        for (int p = 0; p < scores.length; p++) {
            for (int score : scores[p]) {
                Check.score(x, reviewer, p, score);
                reviewer++;
            }
        }
        return x;
    }

    private static int[] of(int... numbers) {
        return numbers;
    }

    /** Expects that proposal 1 comes before proposal 0, by this tie round. */
    private static void secondFirst(String what, GrantAllocation x, int round) {
        CHECK.same(what + ": ranks", x.rank(0) * 10 + x.rank(1), 10);
        CHECK.same(what + ": tie round", x.tieRound(0, 1) * 10 + x.tieRound(1, 0), 11 * round);
        CHECK.same(what + ": in all", x.ranked(-1, 0) * 10 + x.ranked(-1, 1), 10);
    }

    private static void whoIsRanked() {
        CHECK.sentence("RANKING: The proposals that have normalized scores are ranked");
        GrantAllocation x = Check.loaded("panel 1;reviewer 0 1 9 topics 0;proposal 0 2 0 1;proposal 0 2 0 1;");
        CHECK.fails("no review", NoSuchElementException.class, () -> x.rank(1));
        CHECK.fails("none is ranked", IndexOutOfBoundsException.class, () -> x.ranked(0, 0));
        x.assign(0, 1);
        CHECK.fails("no score", NoSuchElementException.class, () -> x.rank(1));
        x.setScore(0, 1, 1);
        CHECK.same("ranked", x.rank(1) * 10 + x.ranked(0, 0), 1);
        CHECK.fails("the other one is not", NoSuchElementException.class, () -> x.rank(0));
        x.unassign(0, 1);
        CHECK.fails("no more", NoSuchElementException.class, () -> x.rank(1));
    }

    private static void byNormalizedScore() {
        CHECK.sentence("RANKING: the greater normalized score comes first");
        // 49999 and 50000, the nearest there can be; all that follows speaks for proposal 0 or for none.
        GrantAllocation x = Check.loaded("panel 1;reviewer 0 1 10 topics 0;reviewer 0 1 10 topics 0;"
                + "proposal 0 2 0 1;proposal 0 2 0 9999;" + "proposal 0 2 0 1;".repeat(8));
        for (int p = 0; p < 10; p++) {
            Check.score(x, 0, p, p == 1 ? 1 : 100);
            Check.score(x, 1, p, p == 1 ? 100 : 1);
        }
        CHECK.same("49999 and 50000", x.normalized(0) + " " + x.normalized(1), "49999 50000");
        secondFirst("by 1", x, 0);
        // A negative score comes last, whatever its least score is.
        GrantAllocation y = Check.loaded("panel 1;reviewer 0 1 10 topics 0;reviewer 0 1 10 topics 0;"
                + "proposal 0 2 0 1;" + "proposal 0 2 0 1;".repeat(10));
        for (int p = 0; p < 10; p++) {
            Check.score(y, 0, p, p == 0 ? 90 : 100);
        }
        Check.score(y, 1, 10, 1);
        CHECK.same("negative", y.normalized(0), -50000);
        CHECK.same("the last", y.rank(0), 10);
        CHECK.same("behind a least score of 1", y.rank(10), 9);
        CHECK.same("by the normalized scores", y.tieRound(0, 10), 0);
    }

    private static void byLeastScore() {
        CHECK.sentence("RANKING: if these are equal, the greater least score of its scored reviews");
        secondFirst("61 and 60", tied(of(1, 2), of(100, 60), of(61, 61)), 1);
        secondFirst("2 and 1", tied(of(1, 2), of(1), of(2)), 1);
        secondFirst("100 and 99", tied(of(1, 2), of(100, 100, 99), of(100)), 1);
        secondFirst("the first of three is the least", tied(of(1, 2), of(50, 90, 90), of(90, 51, 90)), 1);
        GrantAllocation x = tied(of(1, 2), of(100, 60), of(61));
        x.assign(5, 1);
        secondFirst("a review without a score has no least score", x, 1);
    }

    private static void byHighScores() {
        CHECK.sentence("RANKING: if these are equal, too, the greater number of its scores that are at least 80");
        secondFirst("80 and 79", tied(of(1, 2), of(60, 79), of(60, 80)), 2);
        secondFirst("one more of 80", tied(of(1, 2), of(60, 100), of(60, 80, 80)), 2);
        secondFirst("the least score may be one of them", tied(of(1, 2), of(80), of(80, 80)), 2);
        secondFirst("four and three", tied(of(1, 2), of(90, 100, 100), of(90, 90, 90, 90)), 2);
        secondFirst("100 counts", tied(of(1, 2), of(60, 79, 79), of(60, 100)), 2);
        secondFirst("79 does not count against it", tied(of(2, 1), of(60, 80), of(60, 79, 79, 80)), 3);
        GrantAllocation x = tied(of(1, 1), of(60, 80), of(60, 100));
        CHECK.same("81 to 100 count no more than 80", x.tieRound(0, 1), 4);
    }

    private static void byRequestedAmount() {
        CHECK.sentence("RANKING: then the smaller requested amount");
        secondFirst("1 and 2", tied(of(2, 1), of(50), of(50)), 3);
        secondFirst("9999 and 9998", tied(of(9999, 9998), of(80, 90), of(80, 90)), 3);
        secondFirst("in any order of the scores", tied(of(100, 99), of(60, 79), of(70, 60)), 3);
    }

    private static void byNumber() {
        CHECK.sentence("RANKING: then the lower number");
        GrantAllocation x = tied(of(7, 7), of(50), of(50));
        CHECK.same("ranks", x.rank(0) * 10 + x.rank(1), 1);
        CHECK.same("tie round", x.tieRound(0, 1) * 10 + x.tieRound(1, 0), 44);
        GrantAllocation all = Check.loaded("panel 1;reviews 1;reviewer 0 1 8 topics 0;reviewer 0 1 8 topics 0;"
                + "proposal 0 2 0 5;".repeat(16));
        for (int p = 15; p >= 0; p--) {
            Check.score(all, p & 1, p, 50);
        }
        for (int p = 0; p < 16; p++) {
            CHECK.same("sixteen: rank", all.rank(p), p);
            CHECK.same("sixteen: ranked", all.ranked(0, p), p);
        }
    }

    private static void inAll() {
        CHECK.sentence("RANKING: in their panel and in all");
        GrantAllocation x = Check.loaded("panel 1;panel 1;panel 1;" + "reviewer 0 1 1 topics 0;".repeat(2)
                + "reviewer 1 1 1 topics 0;".repeat(2) + "proposal 0 2 0 4;proposal 1 2 0 3;proposal 0 2 0 2;proposal 1 2 0 1;");
        int[] reviewers = {0, 2, 1, 3};
        for (int p = 0; p < 4; p++) {
            Check.score(x, reviewers[p], p, 50);
        }
        CHECK.same("panel 0", x.ranked(0, 0) * 10 + x.ranked(0, 1), 20);
        CHECK.same("panel 1", x.ranked(1, 0) * 10 + x.ranked(1, 1), 31);
        CHECK.same("in all", "" + x.ranked(-1, 0) + x.ranked(-1, 1) + x.ranked(-1, 2) + x.ranked(-1, 3), "3210");
        CHECK.fails("a panel without proposals", IndexOutOfBoundsException.class, () -> x.ranked(2, 0));
        CHECK.same("ranks are those of the panel", "" + x.rank(0) + x.rank(1) + x.rank(2) + x.rank(3), "1100");
    }

    /** Sixteen proposals of the last panel whose requested amounts fall; proposal 15 comes first. */
    private static GrantAllocation full() {
        StringBuilder text = new StringBuilder("panel 1;".repeat(4) + "reviews 1;reviewer 3 1 8 topics 0;reviewer 3 1 8 topics 0;");
        for (int p = 0; p < 16; p++) {
            text.append("proposal 3 2 0 ").append(50 - p).append(';');
        }
        GrantAllocation x = Check.loaded(text.toString());
        for (int p = 0; p < 16; p++) {
            Check.score(x, p & 1, p, 50);
        }
        return x;
    }

    // ---- promise 24

    private static void rank() {
        CHECK.sentence("24: Returns the rank, 0 for the first one");
        GrantAllocation x = full();
        CHECK.same("the first", x.rank(15), 0);
        CHECK.same("the last", x.rank(0), 15);

        CHECK.sentence("24: Throws IndexOutOfBoundsException if there is no such proposal");
        for (int p : NO_PROPOSAL) {
            CHECK.fails("proposal " + p, IndexOutOfBoundsException.class, () -> x.rank(p));
        }
        GrantAllocation y = tied(of(1, 1), of(50));
        CHECK.fails("proposal 2 of two", IndexOutOfBoundsException.class, () -> y.rank(2));

        CHECK.sentence("24: Throws NoSuchElementException if it is not ranked");
        CHECK.fails("no review", NoSuchElementException.class, () -> y.rank(1));
        y.assign(11, 1);
        CHECK.fails("no score", NoSuchElementException.class, () -> y.rank(1));
        x.setScore(1, 15, -1);
        CHECK.fails("no score any more", NoSuchElementException.class, () -> x.rank(15));
        CHECK.same("the next one", x.rank(14), 0);
    }

    // ---- promise 25

    private static void ranked() {
        CHECK.sentence("25: panel: number of a panel, or NONE for the ranking in all; rank, from 0");
        GrantAllocation x = full();
        CHECK.same("the first", x.ranked(3, 0) * 100 + x.ranked(-1, 0), 1515);
        CHECK.same("the last", x.ranked(3, 15) * 100 + x.ranked(-1, 15), 0);

        CHECK.sentence("25: Throws IndexOutOfBoundsException if there is no such panel");
        for (int panel : new int[] {-2, 4, 5, Integer.MIN_VALUE, Integer.MAX_VALUE}) {
            CHECK.fails("panel " + panel, IndexOutOfBoundsException.class, () -> x.ranked(panel, 0));
        }
        GrantAllocation y = tied(of(1, 1), of(50));
        CHECK.fails("panel 1 of one", IndexOutOfBoundsException.class, () -> y.ranked(1, 0));

        CHECK.sentence("25: Throws IndexOutOfBoundsException if there is no proposal with this rank");
        for (int rank : new int[] {-1, 16, Integer.MIN_VALUE, Integer.MAX_VALUE}) {
            CHECK.fails("rank " + rank, IndexOutOfBoundsException.class, () -> x.ranked(3, rank));
            CHECK.fails("rank in all " + rank, IndexOutOfBoundsException.class, () -> x.ranked(-1, rank));
        }
        CHECK.fails("a panel without proposals", IndexOutOfBoundsException.class, () -> x.ranked(0, 0));
        CHECK.same("one is ranked", y.ranked(0, 0) + y.ranked(-1, 0), 0);
        CHECK.fails("the other one is not", IndexOutOfBoundsException.class, () -> y.ranked(0, 1));
        CHECK.fails("nor in all", IndexOutOfBoundsException.class, () -> y.ranked(-1, 1));
        CHECK.fails("nothing at all", IndexOutOfBoundsException.class, () -> new GrantAllocation().ranked(-1, 0));
    }

    // ---- promise 26

    private static void tieRound() {
        CHECK.sentence("26: b: number of another proposal, possibly of another panel");
        GrantAllocation panels = Check.loaded("panel 1;panel 1;reviewer 0 1 1 topics 0;reviewer 1 1 1 topics 0;"
                + "proposal 0 2 0 4;proposal 1 2 0 4;");
        Check.score(panels, 0, 0, 80);
        Check.score(panels, 1, 1, 80);
        CHECK.same("by their numbers", panels.tieRound(0, 1) * 10 + panels.tieRound(1, 0), 44);
        panels.setScore(1, 1, 79);
        CHECK.same("by their least scores", panels.tieRound(0, 1), 1);

        CHECK.sentence("26: Returns 0 by the normalized scores, 1 by the least scores, 2 by the numbers of scores of at least"
                + " 80, 3 by the requested amounts, 4 by their numbers");
        GrantAllocation rounds = tied(of(2, 2, 1, 2, 2), of(60, 80), of(60, 80), of(60, 80), of(60, 79), of(61, 61));
        CHECK.same("the numbers", rounds.tieRound(0, 1), 4);
        CHECK.same("the requested amounts", rounds.tieRound(1, 2), 3);
        CHECK.same("the numbers of scores of at least 80, before the amounts", rounds.tieRound(2, 3), 2);
        CHECK.same("the least scores, before the numbers of scores of at least 80", rounds.tieRound(0, 4), 1);
        GrantAllocation scores = Check.loaded("panel 1;reviewer 0 1 9 topics 0;proposal 0 2 0 1;proposal 0 2 0 2;");
        Check.score(scores, 0, 0, 80);
        Check.score(scores, 0, 1, 81);
        CHECK.same("the normalized scores, before all others", scores.tieRound(0, 1), 0);
        scores.setScore(0, 0, 81);
        CHECK.same("the amounts, if all others are equal", scores.tieRound(0, 1), 3);

        CHECK.sentence("26: Throws IndexOutOfBoundsException if there is no such proposal");
        GrantAllocation x = full();
        for (int p : NO_PROPOSAL) {
            CHECK.fails("a is " + p, IndexOutOfBoundsException.class, () -> x.tieRound(p, 0));
            CHECK.fails("b is " + p, IndexOutOfBoundsException.class, () -> x.tieRound(0, p));
            CHECK.fails("both are " + p, IndexOutOfBoundsException.class, () -> x.tieRound(p, p));
        }
        CHECK.same("the first and the last", x.tieRound(0, 15), 3);

        CHECK.sentence("26: Throws IllegalArgumentException if both are the same");
        CHECK.fails("0", IllegalArgumentException.class, () -> x.tieRound(0, 0));
        CHECK.fails("15", IllegalArgumentException.class, () -> x.tieRound(15, 15));

        CHECK.sentence("26: Throws NoSuchElementException if one of them is not ranked");
        GrantAllocation y = tied(of(1, 1, 1), of(50));
        CHECK.fails("b", NoSuchElementException.class, () -> y.tieRound(0, 1));
        CHECK.fails("a", NoSuchElementException.class, () -> y.tieRound(1, 0));
        CHECK.fails("both", NoSuchElementException.class, () -> y.tieRound(1, 2));
        y.assign(11, 1);
        CHECK.fails("a review without a score", NoSuchElementException.class, () -> y.tieRound(0, 1));
        y.setScore(11, 1, 50);
        CHECK.same("both are", y.tieRound(0, 1), 4);
    }
}
