/** Promises 27 to 33: setLine to lineFor. */
public final class FundingTest {
    private static final Check CHECK = new Check();
    private static final int FAR = Integer.MAX_VALUE;

    public static void main(String[] args) {
        setLine();
        onePanel();
        partialEdges();
        budgetEdges();
        pool();
        bestSum();
        bestSumOfMany();
        bestSumOfAll();
        lineFor();
        lineForAboveAll();
        lineForZero();
        lineForIsNotMonotonic();
        wrongArguments();
        CHECK.end();
    }

    /** Normalized scores 83333, 66666, 50000, 33333 and 16666 of proposals 0 to 4. */
    private static GrantAllocation five(String panel, String least) {
        GrantAllocation x = Check.loaded(panel + "reviewer 0 1 9 topics 0;proposal 0 2 0 100;proposal 0 2 0 200 least "
                + least + ";proposal 0 2 0 50;proposal 0 2 0 100;proposal 0 2 0 60;");
        for (int p = 0; p < 5; p++) {
            x.assign(0, p);
            x.setScore(0, p, 90 - 10 * p);
        }
        return x;
    }

    private static void setLine() {
        GrantAllocation x = five("panel 250;line 77;", "120");
        CHECK.same("the text's line", x.setLine(100000), 77);
        CHECK.same("the greatest line", x.setLine(0), 100000);
        CHECK.same("the least line", x.setLine(0), 0);
        CHECK.same("the same line is a change", x.undo(), 9);
        for (int line : new int[] {-1, 100001, FAR, Integer.MIN_VALUE}) {
            CHECK.fails("line " + line, IllegalArgumentException.class, () -> x.setLine(line));
        }
        CHECK.same("the line stays", x.setLine(1), 0);
    }

    private static void funding(String what, GrantAllocation x, int mode, int left, int poolLeft, int... amounts) {
        int bits = 0;
        for (int p = 0; p < amounts.length; p++) {
            CHECK.same(what + ", mode " + mode + ", amount " + p, x.amount(mode, p), amounts[p]);
            bits |= amounts[p] > 0 ? 1 << p : 0;
        }
        CHECK.same(what + ", mode " + mode + ", left", x.left(mode, 0), left);
        CHECK.same(what + ", mode " + mode + ", poolLeft", x.poolLeft(mode), poolLeft);
        CHECK.same(what + ", mode " + mode + ", funded", x.funded(mode), bits);
    }

    private static void onePanel() {
        GrantAllocation x = five("panel 250;", "120");
        CHECK.same("the scores", x.normalized(0) + x.normalized(1) + x.normalized(3) + x.normalized(4), 199998);
        funding("250", x, 0, 150, 0, 100, 0, 50, 100, 0);
        funding("250", x, 1, 0, 0, 100, 0, 50, 100, 0);
        funding("250", x, 2, 0, 0, 100, 150, 0, 0, 0);
        x.setLine(33333);
        funding("line at a score", x, 1, 0, 0, 100, 0, 50, 100, 0);
        x.setLine(33334);
        funding("line above a score", x, 1, 100, 100, 100, 0, 50, 0, 0);
        x.setLine(100000);
        funding("line above all", x, 2, 250, 250, 0, 0, 0, 0, 0);
        x.undo();
        x.undo();
        x.undo();
        x.setScore(0, 0, -1);
        funding("a proposal without a score", x, 0, 0, 0, 0, 200, 50, 0, 0);
    }

    private static void partialEdges() {
        funding("least is what is left", five("panel 250;", "150"), 2, 0, 0, 100, 150, 0, 0, 0);
        funding("least is more than what is left", five("panel 250;", "151"), 2, 150, 0, 100, 0, 50, 100, 0);
        funding("least is more, and a pool", five("panel 250;pool 50;", "151"), 2, 150, 0, 100, 200, 0, 0, 0);
        funding("a part counts as something", five("panel 250;pool 500;", "1"), 2, 0, 290, 100, 150, 50, 100, 60);
        // Partial funding goes to the first one that lacks money, and to no later one.
        funding("a part for the first alone", five("panel 40;", "1"), 2, 40, 40, 0, 0, 0, 0, 0);
    }

    private static void budgetEdges() {
        funding("all", five("panel 510;", "200"), 0, 0, 0, 100, 200, 50, 100, 60);
        funding("one less", five("panel 509;", "200"), 0, 59, 59, 100, 200, 50, 100, 0);
        funding("nothing", five("panel 0;", "1"), 2, 0, 0, 0, 0, 0, 0, 0);
        funding("skipping", five("panel 99;", "1"), 1, 49, 49, 0, 0, 50, 0, 0);
        funding("strict, then the pool skips", five("panel 99;", "1"), 0, 99, 49, 0, 0, 50, 0, 0);
        funding("the pool alone", five("panel 0;pool 310;", "1"), 1, 0, 10, 100, 200, 0, 0, 0);
        funding("the largest", five("panel 100000;pool 100000;", "1"), 0, 99490, 199490, 100, 200, 50, 100, 60);
    }

    private static void pool() {
        // Panel 0: scores 90 and 10 of one reviewer, panel 1: 80, 50 and 20 of another one.
        GrantAllocation x = Check.loaded("panel 100;panel 70;panel 5;pool 10;reviewer 0 1 9 topics 0;"
                + "reviewer 1 1 9 topics 0;proposal 0 2 0 90;proposal 0 2 0 30;proposal 1 2 0 60;proposal 1 2 0 25;"
                + "proposal 1 2 0 20;");
        int[][] reviews = {{0, 0, 90}, {0, 1, 10}, {1, 2, 80}, {1, 3, 50}, {1, 4, 20}};
        for (int[] review : reviews) {
            x.assign(review[0], review[1]);
            x.setScore(review[0], review[1], review[2]);
        }
        CHECK.same("70000", x.normalized(0), 70000);
        CHECK.same("80000", x.normalized(2), 80000);
        CHECK.same("left of panel 0", x.left(0, 0), 10);
        CHECK.same("left of panel 1", x.left(0, 1), 10);
        CHECK.same("left of a panel without proposals", x.left(0, 2), 5);
        // The pool of 35 goes to proposal 3 (50000) before 1 (30000) and 4 (20000).
        CHECK.same("from the pool", x.amount(0, 3), 25);
        CHECK.same("too much for the rest", x.amount(0, 1), 0);
        CHECK.same("too much for the rest", x.amount(0, 4), 0);
        CHECK.same("the rest", x.poolLeft(0), 10);
        CHECK.same("funded", x.funded(0), 0b01101);
        x.setScore(1, 3, -1);
        CHECK.same("1 and 4 have 30000", x.normalized(1) + x.normalized(4), 60000);
        CHECK.same("4 has the greater least score", x.amount(0, 4), 20);
        CHECK.same("too much for the rest", x.amount(0, 1), 0);
    }

    private static void bestSum() {
        GrantAllocation x = five("panel 250;", "1");
        CHECK.same("0, 2 and 3", x.bestSum(0), 166666);
        x.setLine(33333);
        CHECK.same("line at a score", x.bestSum(0), 166666);
        x.setLine(33334);
        CHECK.same("0 and 2", x.bestSum(0), 133333);
        x.setLine(90000);
        CHECK.same("none", x.bestSum(0), 0);
        CHECK.same("too little money", five("panel 49;", "1").bestSum(0), 0);
        CHECK.same("one", five("panel 50;", "1").bestSum(0), 50000);
        CHECK.same("all", five("panel 510;", "1").bestSum(0), 249998);
        CHECK.same("all but the least", five("panel 509;", "1").bestSum(0), 233332);
        CHECK.same("not the pool", five("panel 99;pool 1000;", "1").bestSum(0), 50000);
        CHECK.same("no proposal", Check.loaded("panel 5;").bestSum(0), 0);
    }

    private static void bestSumOfMany() {
        // Each reviewer has one proposal or two with equal scores: 16 times 50000.
        StringBuilder text = new StringBuilder("panel 1000;reviews 1;");
        text.append("reviewer 0 1 4 topics 0;".repeat(4));
        for (int p = 0; p < 16; p++) {
            text.append("proposal 0 2 0 ").append(100 + p).append(';');
        }
        GrantAllocation x = Check.loaded(text.toString());
        x.assignAll(0);
        for (int p = 0; p < 16; p++) {
            x.setScore(x.reviewerOf(p, 0), p, 70);
        }
        CHECK.same("the nine cheapest of sixteen", x.bestSum(0), 450000);
    }

    /** Requests that grow with the scores, so that no choice of proposals can be left aside for another one. */
    private static void bestSumOfAll() {
        int[] scores = {3, 7, 12, 20, 33, 47, 66, 95};
        int[] requests = new int[16];
        int sum = 0;
        GrantAllocation x = null;
        for (int times = 0; times < 2; times++) {
            StringBuilder text = new StringBuilder("panel 100000;reviews 1;" + "reviewer 0 1 8 topics 0;".repeat(2));
            for (int p = 0; p < 16; p++) {
                text.append("proposal 0 2 0 ").append(requests[p] + 1).append(';');
            }
            x = Check.loaded(text.toString());
            for (int p = 0; p < 16; p++) {
                x.assign(p & 1, p);
                x.setScore(p & 1, p, scores[p >> 1]);
            }
            sum = 0;
            for (int p = 0; p < 16; p++) {
                requests[p] = x.normalized(p) / 12;
                sum += x.normalized(p);
            }
        }
        CHECK.same("all sixteen", x.bestSum(0), sum);
    }

    private static void lineFor() {
        GrantAllocation x = five("panel 250;line 5;", "120");
        int[][] due = {{83333, 50000, 33333, -1}, {83333, 50000, 33333, -1}, {83333, 66666, -1, -1}};
        for (int mode = 0; mode < 3; mode++) {
            for (int number = 1; number <= 4; number++) {
                CHECK.same("lineFor " + mode + " " + number, x.lineFor(mode, number), due[mode][number - 1]);
            }
            CHECK.same("lineFor " + mode + " 16", x.lineFor(mode, 16), -1);
        }
        CHECK.same("the line stays", x.setLine(100000), 5);
        CHECK.same("the present line does not count", x.lineFor(0, 1), 83333);
        CHECK.same("no money", five("panel 0;", "1").lineFor(0, 1), -1);
        CHECK.same("no proposal", Check.loaded("panel 9;").lineFor(0, 1), -1);
    }

    private static void lineForAboveAll() {
        GrantAllocation x = Check.loaded("panel 1000;reviewer 0 1 10 topics 0;reviewer 0 1 10 topics 0;"
                + "proposal 0 2 0 1;".repeat(11));
        for (int p = 0; p < 10; p++) {
            x.assign(0, p);
            x.setScore(0, p, p == 3 ? 100 : 1);
        }
        CHECK.same("150000", x.normalized(3), 150000);
        CHECK.same("no line above 100000", x.lineFor(0, 1), 100000);
        x.setLine(100000);
        CHECK.same("the greatest line", x.funded(0), 8);
        CHECK.same("above 100000 in bestSum", x.bestSum(0), 150000);
        CHECK.same("all ten", x.lineFor(0, 10), 38888);
        for (int p = 0; p < 10; p++) {
            x.setScore(0, p, p == 3 ? 1 : 100);
        }
        CHECK.same("-50000", x.normalized(3), -50000);
        CHECK.same("nine", x.lineFor(0, 9), 61111);
        CHECK.same("never ten", x.lineFor(0, 10), -1);
        x.setLine(0);
        CHECK.same("a negative score is not eligible with line 0", x.funded(0), 0b1111110111);
        CHECK.same("nor for bestSum", x.bestSum(0), 549999);
    }

    private static void lineForZero() {
        GrantAllocation x = Check.loaded("panel 1000;reviewer 0 1 10 topics 0;" + "proposal 0 2 0 1;".repeat(5));
        for (int p = 0; p < 5; p++) {
            x.assign(0, p);
            x.setScore(0, p, p == 2 ? 1 : 9);
        }
        CHECK.same("a normalized score of 0", x.normalized(2), 0);
        CHECK.same("is eligible with line 0", x.funded(0), 31);
        CHECK.same("the least line", x.lineFor(0, 5), 0);
        x.setLine(1);
        CHECK.same("is not eligible with line 1", x.funded(0), 27);
    }

    /** A lower line can fund fewer: what panel 1 keeps by then is missing in the pool. */
    private static void lineForIsNotMonotonic() {
        GrantAllocation x = Check.loaded("panel 0;panel 100;reviewer 0 1 9 topics 0;reviewer 1 1 9 topics 0;"
                + "proposal 0 2 0 50;proposal 0 2 0 50;proposal 1 2 0 100;proposal 1 2 0 999;");
        int[][] reviews = {{0, 0, 90}, {0, 1, 90}, {1, 2, 10}, {1, 3, 5}};
        for (int[] review : reviews) {
            x.assign(review[0], review[1]);
            x.setScore(review[0], review[1], review[2]);
        }
        x.setScore(1, 3, 90);
        CHECK.same("line 50000 funds two", x.lineFor(0, 2), 50000);
        x.setLine(50000);
        CHECK.same("two of panel 0 from the pool", x.funded(1), 3);
        x.setLine(30000);
        CHECK.same("one of panel 1", x.funded(1), 4);
        CHECK.same("the greatest line is found all the same", x.lineFor(1, 2), 50000);
    }

    private static void wrongArguments() {
        GrantAllocation x = five("panel 250;", "120");
        for (int mode : new int[] {-1, 3, FAR, Integer.MIN_VALUE}) {
            CHECK.fails("amount", IllegalArgumentException.class, () -> x.amount(mode, 0));
            CHECK.fails("amount, both wrong", IllegalArgumentException.class, () -> x.amount(mode, 5));
            CHECK.fails("left", IllegalArgumentException.class, () -> x.left(mode, 0));
            CHECK.fails("left, both wrong", IllegalArgumentException.class, () -> x.left(mode, -1));
            CHECK.fails("poolLeft", IllegalArgumentException.class, () -> x.poolLeft(mode));
            CHECK.fails("funded", IllegalArgumentException.class, () -> x.funded(mode));
            CHECK.fails("lineFor", IllegalArgumentException.class, () -> x.lineFor(mode, 1));
        }
        for (int p : new int[] {-1, 5, 16, FAR}) {
            CHECK.fails("amount of " + p, IndexOutOfBoundsException.class, () -> x.amount(0, p));
        }
        for (int panel : new int[] {-1, 1, 4, FAR}) {
            CHECK.fails("left of " + panel, IndexOutOfBoundsException.class, () -> x.left(0, panel));
            CHECK.fails("bestSum of " + panel, IndexOutOfBoundsException.class, () -> x.bestSum(panel));
        }
        for (int number : new int[] {-1, 0, 17, FAR}) {
            CHECK.fails("lineFor number " + number, IllegalArgumentException.class, () -> x.lineFor(0, number));
        }
    }
}
