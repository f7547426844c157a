/** The boundary cases of FUNDING and of promises 27 to 33, a test for each sentence. */
public final class FundingEdgesTest {
    private static final Check CHECK = new Check();
    private static final int[] NO_MODE = {-1, 3, 4, Integer.MIN_VALUE, Integer.MAX_VALUE};
    private static final int[] NO_PANEL = {-1, 4, 5, Integer.MIN_VALUE, Integer.MAX_VALUE};
    private static final int[] NO_PROPOSAL = {-1, 16, 17, Integer.MIN_VALUE, Integer.MAX_VALUE};

    public static void main(String[] args) {
        eligible();
        eligibleAtTheEnds();
        strict();
        skipping();
        partial();
        commonPool();
        poolInTheOrderOfAll();
        poolBySkipping();
        setLine();
        amount();
        left();
        poolLeft();
        funded();
        bestSum();
        bestSumOfMany();
        bestSumIsNotNegative();
        noSuchPanel();
        lineForNumbers();
        lineFor();
        lineForAtTheEnds();
        lineForWithThePool();
        lineForIsNoChange();
        modes();
        CHECK.end();
    }

    /** Three proposals with the normalized scores 80000, 50000 and 20000. */
    private static GrantAllocation three(String settings, String a, String b, String c) {
        GrantAllocation x = Check.loaded(settings + "reviewer 0 1 9 topics 0;proposal 0 2 0 " + a + ";proposal 0 2 0 " + b
                + ";proposal 0 2 0 " + c + ";");
        for (int p = 0; p < 3; p++) {
            Check.score(x, 0, p, 3 - p);
        }
        return x;
    }

    /** What is left in panel 0, what the three get, and what is left of the pool. */
    private static String money(GrantAllocation x, int mode) {
        return x.left(mode, 0) + ": " + x.amount(mode, 0) + " " + x.amount(mode, 1) + " " + x.amount(mode, 2) + ", "
                + x.poolLeft(mode);
    }

    /** A reviewer's scores of proposals of panel 0: one of another score than the others. */
    private static GrantAllocation oneOf(int proposals, int its, int others) {
        GrantAllocation x = Check.loaded("panel 100;reviewer 0 1 10 topics 0;" + "proposal 0 2 0 1;".repeat(proposals));
        for (int p = 0; p < proposals; p++) {
            Check.score(x, 0, p, p == 0 ? its : others);
        }
        return x;
    }

    // ---- FUNDING

    private static void eligible() {
        CHECK.sentence("FUNDING: A proposal is eligible if it is ranked and its normalized score is at least the funding"
                + " line");
        GrantAllocation x = three("panel 100;", "10", "10", "10");
        int[] lines = {0, 19999, 20000, 20001, 50000, 50001, 80000, 80001, 100000};
        int[] due = {7, 7, 7, 3, 3, 1, 1, 0, 0};
        for (int i = 0; i < lines.length; i++) {
            x.setLine(lines[i]);
            for (int mode = 0; mode <= 2; mode++) {
                CHECK.same("line " + lines[i], x.funded(mode), due[i]);
            }
        }
        x.setLine(0);
        x.setScore(0, 1, -1);
        CHECK.same("not ranked", x.funded(0), 5);
        x.unassign(0, 0);
        CHECK.same("no review", x.funded(0), 4);
    }

    private static void eligibleAtTheEnds() {
        CHECK.sentence("FUNDING: its normalized score is at least the funding line: at the ends of the line's range");
        GrantAllocation high = oneOf(5, 100, 1);
        CHECK.same("100000", high.normalized(0), 100000);
        high.setLine(100000);
        CHECK.same("100000 with line 100000", high.funded(0), 1);
        GrantAllocation zero = oneOf(5, 1, 100);
        CHECK.same("0", zero.normalized(0), 0);
        CHECK.same("0 with line 0", zero.funded(0), 31);
        zero.setLine(1);
        CHECK.same("0 with line 1", zero.funded(0), 30);
        GrantAllocation below = oneOf(6, 1, 100);
        CHECK.same("-10000", below.normalized(0), -10000);
        CHECK.same("below 0 with line 0", below.funded(0), 62);
    }

    private static void strict() {
        CHECK.sentence("FUNDING: mode 0, strict: a proposal whose requested amount is at most what is left of the budget"
                + " gets it");
        CHECK.same("all of it", money(three("panel 100;", "100", "1", "1"), 0), "0: 100 0 0, 0");
        CHECK.same("one less than all", money(three("panel 100;", "99", "1", "1"), 0), "0: 99 1 0, 0");
        CHECK.same("one more than all", money(three("panel 100;", "101", "60", "41"), 0), "100: 0 60 0, 40");
        CHECK.same("all three", money(three("panel 100;", "50", "30", "20"), 0), "0: 50 30 20, 0");

        CHECK.sentence("FUNDING: mode 0: at the first one for which this is not so, funding ends");
        CHECK.same("the first", three("panel 100;", "101", "1", "1").left(0, 0), 100);
        CHECK.same("the second", three("panel 100;", "50", "51", "50").left(0, 0), 50);
        CHECK.same("the third", three("panel 100;", "50", "50", "1").left(0, 0), 0);
        CHECK.same("no budget", money(three("panel 0;", "1", "1", "1"), 0), "0: 0 0 0, 0");
        CHECK.same("a least amount is of no use", money(three("panel 100;", "101 least 1", "101 least 1", "101"), 0),
                "100: 0 0 0, 100");
        GrantAllocation x = three("panel 100;", "101", "1", "1");
        x.setScore(0, 0, -1);
        CHECK.same("one that is not eligible does not end it", x.left(0, 0), 98);
    }

    private static void skipping() {
        CHECK.sentence("FUNDING: mode 1, skipping: a proposal whose requested amount is at most what is left of the budget"
                + " gets it; the others get nothing");
        CHECK.same("all of it", money(three("panel 100;", "100", "1", "1"), 1), "0: 100 0 0, 0");
        CHECK.same("the first is skipped", money(three("panel 100;", "101", "100", "1"), 1), "0: 0 100 0, 0");
        CHECK.same("two are skipped", money(three("panel 100;", "101", "101", "100"), 1), "0: 0 0 100, 0");
        CHECK.same("the second is skipped", money(three("panel 100;", "50", "51", "50"), 1), "0: 50 0 50, 0");
        CHECK.same("all are skipped", money(three("panel 100;", "101", "101", "101"), 1), "100: 0 0 0, 100");
        CHECK.same("a least amount is of no use", money(three("panel 100;", "101 least 1", "50", "51 least 50"), 1),
                "50: 0 50 0, 50");
        CHECK.same("no budget", money(three("panel 0;", "1", "1", "1"), 1), "0: 0 0 0, 0");
    }

    private static void partial() {
        CHECK.sentence("FUNDING: mode 2, partial: if what is left is at least the least amount of the first proposal that"
                + " cannot get its requested amount, this proposal gets what is left");
        CHECK.same("what is left is the least amount", money(three("panel 100;", "40", "61 least 60", "1"), 2), "0: 40 60 0, 0");
        CHECK.same("one less", money(three("panel 100;", "40", "62 least 61", "1"), 2), "60: 40 0 1, 59");
        CHECK.same("one more", money(three("panel 100;", "40", "61 least 59", "1"), 2), "0: 40 60 0, 0");
        CHECK.same("the request itself", money(three("panel 100;", "40", "60 least 1", "1"), 2), "0: 40 60 0, 0");
        CHECK.same("the first of all", money(three("panel 100;", "9999 least 1", "1", "1"), 2), "0: 100 0 0, 0");
        CHECK.same("the last of all", money(three("panel 100;", "50", "49", "2 least 1"), 2), "0: 50 49 1, 0");
        CHECK.same("nothing is left", money(three("panel 100;", "50", "50", "2 least 1"), 2), "0: 50 50 0, 0");
        CHECK.same("no budget", money(three("panel 0;", "1", "2 least 1", "1"), 2), "0: 0 0 0, 0");

        CHECK.sentence("FUNDING: mode 2: as mode 0");
        CHECK.same("enough for all", money(three("panel 100;", "50", "30", "20"), 2), "0: 50 30 20, 0");
        CHECK.same("no later one gets a part", three("panel 100;", "50", "51", "51 least 1").left(2, 0), 50);
        CHECK.same("nor its request", three("panel 100;", "50", "51", "50").left(2, 0), 50);
    }

    private static void commonPool() {
        CHECK.sentence("FUNDING: the common pool is its budget plus what is left in all panels");
        GrantAllocation x = Check.loaded("panel 100000;panel 0;panel 5;panel 100000;pool 100000;");
        for (int mode = 0; mode <= 2; mode++) {
            CHECK.same("the sum", x.poolLeft(mode), 300005);
        }
        CHECK.same("the largest", Check.loaded("panel 100000;".repeat(4) + "pool 100000;").poolLeft(0), 500000);
        CHECK.same("no panel", Check.loaded("pool 7;").poolLeft(0), 7);
        CHECK.same("nothing", Check.loaded("panel 0;pool 0;").poolLeft(0), 0);

        CHECK.sentence("FUNDING: all eligible proposals that got nothing are considered");
        CHECK.same("just enough", money(three("panel 0;pool 6;", "1", "2", "3"), 0), "0: 1 2 3, 0");
        CHECK.same("what the panel's end left over", money(three("panel 10;pool 1;", "11", "1", "1"), 0), "10: 11 0 0, 0");
        CHECK.same("a part is something", money(three("panel 10;pool 100;", "11 least 1", "1", "1"), 2), "0: 10 1 1, 98");
        GrantAllocation y = three("panel 0;pool 100;", "1", "2", "3");
        y.setLine(20001);
        CHECK.same("one that is not eligible", money(y, 0), "0: 1 2 0, 97");
        y.setScore(0, 1, -1);
        CHECK.same("one that is not ranked; the others have 70000 and 30000", money(y, 0), "0: 1 0 3, 96");
    }

    private static void poolInTheOrderOfAll() {
        CHECK.sentence("FUNDING: in the order of the ranking in all");
        // Panel 0: 30000 and 70000, panel 1: 80000, 50000 and 20000.
        GrantAllocation x = Check.loaded("panel 0;panel 0;pool 30;reviewer 0 1 9 topics 0;reviewer 1 1 9 topics 0;"
                + "proposal 0 2 0 10;proposal 0 2 0 10;proposal 1 2 0 10;proposal 1 2 0 10;proposal 1 2 0 10;");
        Check.score(x, 0, 0, 1);
        Check.score(x, 0, 1, 2);
        Check.score(x, 1, 2, 3);
        Check.score(x, 1, 3, 2);
        Check.score(x, 1, 4, 1);
        CHECK.same("the three best of all", x.funded(0), 0b01110);
        x.setScore(0, 0, 3);
        CHECK.same("and if panel 0 turns", x.funded(0), 0b01101);
    }

    private static void poolBySkipping() {
        CHECK.sentence("FUNDING: by mode 1");
        for (int mode = 0; mode <= 2; mode++) {
            CHECK.same("too much is skipped, mode " + mode, money(three("panel 0;pool 10;", "11 least 1", "4", "6"), mode),
                    "0: 0 4 6, 0");
            CHECK.same("one more than what is left, mode " + mode, money(three("panel 0;pool 10;", "4", "7 least 1", "6"), mode),
                    "0: 4 0 6, 0");
            CHECK.same("no part, mode " + mode, money(three("panel 0;pool 10;", "4", "7 least 1", "7 least 1"), mode),
                    "0: 4 0 0, 6");
        }
    }

    // ---- promise 27

    private static void setLine() {
        CHECK.sentence("27: line: 0 to 100000");
        GrantAllocation x = new GrantAllocation();
        CHECK.same("0", x.setLine(0), 0);
        CHECK.same("1", x.setLine(1), 0);
        CHECK.same("99999", x.setLine(99999), 1);
        CHECK.same("100000", x.setLine(100000), 99999);

        CHECK.sentence("27: Throws IllegalArgumentException if line is out of range");
        for (int line : new int[] {-1, 100001, Integer.MIN_VALUE, Integer.MAX_VALUE}) {
            CHECK.fails("line " + line, IllegalArgumentException.class, () -> x.setLine(line));
        }

        CHECK.sentence("27: Returns the previous funding line");
        CHECK.same("the refused ones are not there", x.setLine(5), 100000);
        CHECK.same("the same again", x.setLine(5), 5);
        CHECK.same("six changes", x.undo(), 5);
        GrantAllocation y = Check.loaded("line 100000;");
        CHECK.same("the text's", y.setLine(0), 100000);
        y.undo();
        CHECK.same("after undo", y.setLine(0), 100000);
    }

    // ---- promises 28 to 31

    /** Sixteen proposals of the last panel, each with the amount 9 and an equal score. */
    private static GrantAllocation full(String settings) {
        GrantAllocation x = Check.loaded("panel 0;".repeat(3) + settings + "reviews 1;reviewer 3 1 8 topics 0;reviewer 3 1 8 topics 0;"
                + "proposal 3 2 0 9;".repeat(16));
        for (int p = 0; p < 16; p++) {
            Check.score(x, p & 1, p, 50);
        }
        return x;
    }

    private static void amount() {
        CHECK.sentence("28: Returns the amount, 0 if it gets nothing");
        GrantAllocation x = full("panel 143;");
        for (int mode = 0; mode <= 2; mode++) {
            CHECK.same("the first", x.amount(mode, 0), 9);
            CHECK.same("the last", x.amount(mode, 15), 0);
            CHECK.same("the last but one", x.amount(mode, 14), 9);
            CHECK.same("the last with one more", full("panel 144;").amount(mode, 15), 9);
        }
        GrantAllocation unranked = Check.loaded("panel 9;proposal 0 2 0 1;");
        CHECK.same("not ranked", unranked.amount(0, 0) + unranked.amount(1, 0) + unranked.amount(2, 0), 0);

        CHECK.sentence("28: Throws IndexOutOfBoundsException if there is no such proposal");
        for (int mode = 0; mode <= 2; mode++) {
            int m = mode;
            for (int p : NO_PROPOSAL) {
                CHECK.fails("proposal " + p, IndexOutOfBoundsException.class, () -> x.amount(m, p));
            }
            CHECK.fails("proposal 1 of one", IndexOutOfBoundsException.class, () -> unranked.amount(m, 1));
        }
    }

    private static void left() {
        CHECK.sentence("29: what is left of the budget of a panel before the common pool is formed");
        GrantAllocation x = three("panel 100;panel 40;pool 7;", "101", "30", "1");
        CHECK.same("though the pool takes it", x.left(0, 0) + " " + x.left(0, 1) + " " + x.poolLeft(0), "100 40 15");
        GrantAllocation y = full("panel 144;");
        for (int mode = 0; mode <= 2; mode++) {
            int m = mode;
            CHECK.same("nothing", y.left(mode, 3), 0);
            CHECK.same("a panel of 0", y.left(mode, 0), 0);
            CHECK.same("all", Check.loaded("panel 100000;").left(mode, 0), 100000);
            CHECK.sentence("29: Throws IndexOutOfBoundsException if there is no such panel");
            for (int panel : NO_PANEL) {
                CHECK.fails("panel " + panel, IndexOutOfBoundsException.class, () -> y.left(m, panel));
            }
            CHECK.fails("panel 2 of two", IndexOutOfBoundsException.class, () -> x.left(m, 2));
        }
    }

    private static void poolLeft() {
        CHECK.sentence("30: what is left of the common pool in the end");
        for (int mode = 0; mode <= 2; mode++) {
            CHECK.same("nothing", full("panel 144;").poolLeft(mode), 0);
            CHECK.same("one", full("panel 145;").poolLeft(mode), 1);
            CHECK.same("too little for one more", full("panel 100;pool 43;").poolLeft(mode), 8);
            CHECK.same("just enough for one more", full("panel 100;pool 44;").poolLeft(mode), 0);
        }
    }

    private static void funded() {
        CHECK.sentence("31: Returns a bit set (bit p for proposal p)");
        for (int mode = 0; mode <= 2; mode++) {
            CHECK.same("all sixteen", full("panel 144;").funded(mode), 65535);
            CHECK.same("from the pool", full("panel 0;pool 144;").funded(mode), 65535);
            CHECK.same("none", full("panel 8;").funded(mode), 0);
            CHECK.same("the first", full("panel 9;").funded(mode), 1);
            GrantAllocation last = Check.loaded("panel 9;reviewer 0 1 1 topics 0;" + "proposal 0 2 0 9;".repeat(16));
            Check.score(last, 0, 15, 1);
            CHECK.same("the last", last.funded(mode), 32768);
            CHECK.same("a part", three("panel 1;", "2 least 1", "2", "2").funded(mode), mode == 2 ? 1 : 0);
        }
    }

    // ---- promise 32

    private static void bestSum() {
        CHECK.sentence("32: the greatest sum of the normalized scores of eligible proposals of a panel whose requested"
                + " amounts together are at most the budget of the panel");
        CHECK.same("exactly the budget", three("panel 60;", "10", "20", "30").bestSum(0), 150000);
        CHECK.same("one less", three("panel 59;", "10", "20", "30").bestSum(0), 130000);
        CHECK.same("only one of the three", three("panel 30;", "30", "30", "30").bestSum(0), 80000);
        CHECK.same("two that are more than the first", three("panel 30;", "30", "15", "15").bestSum(0), 80000);
        CHECK.same("the second alone", three("panel 30;", "31", "30", "30").bestSum(0), 50000);
        CHECK.same("the third alone", three("panel 30;", "31", "31", "30").bestSum(0), 20000);
        CHECK.same("the second and the third", three("panel 30;", "31", "15", "15").bestSum(0), 70000);
        CHECK.same("the first and the last", three("panel 30;", "15", "16", "15").bestSum(0), 100000);
        CHECK.same("no pool", three("panel 29;pool 1000;", "30", "30", "29").bestSum(0), 20000);
        GrantAllocation x = three("panel 60;", "10", "20", "30");
        x.setLine(20000);
        CHECK.same("a line at a score", x.bestSum(0), 150000);
        x.setLine(20001);
        CHECK.same("a line above a score", x.bestSum(0), 130000);
        x.setScore(0, 0, -1);
        x.setLine(0);
        CHECK.same("one that is not ranked: 70000 and 30000", x.bestSum(0), 100000);

        CHECK.sentence("32: Returns the greatest sum, 0 if there is none");
        CHECK.same("no proposal", Check.loaded("panel 100;").bestSum(0), 0);
        CHECK.same("none is ranked", Check.loaded("panel 100;proposal 0 2 0 1;").bestSum(0), 0);
        CHECK.same("no budget", three("panel 0;", "1", "1", "1").bestSum(0), 0);
        CHECK.same("too little", three("panel 9;", "10", "10", "10").bestSum(0), 0);
        x.setLine(100000);
        CHECK.same("none is eligible", x.bestSum(0), 0);
        CHECK.same("another panel's", three("panel 0;panel 99;", "1", "1", "1").bestSum(1), 0);
    }

    private static void bestSumOfMany() {
        CHECK.sentence("32: the greatest sum of as many proposals as there can be");
        for (int number = 0; number <= 16; number++) {
            CHECK.same("the money for " + number, full("panel " + 9 * number + ";").bestSum(3), 50000 * number);
            int fewer = Math.max(0, number - 1);
            CHECK.same("one less than for " + number, full("panel " + Math.max(0, 9 * number - 1) + ";").bestSum(3), 50000 * fewer);
        }
        // Amounts that are powers of two: the twelve least are 4095 together, all thirteen 8191.
        int[][] due = {{4094, 11}, {4095, 12}, {8190, 12}, {8191, 13}, {1, 1}, {2, 1}, {3, 2}};
        for (int[] pair : due) {
            CHECK.same("budget " + pair[0], powersOfTwo(pair[0]).bestSum(0), 50000 * pair[1]);
        }
    }

    private static GrantAllocation powersOfTwo(int budget) {
        StringBuilder text = new StringBuilder("panel " + budget + ";reviews 1;" + "reviewer 0 1 7 topics 0;".repeat(2));
        for (int p = 0; p < 13; p++) {
            text.append("proposal 0 2 0 ").append(1 << p).append(';');
        }
        GrantAllocation x = Check.loaded(text.toString());
        for (int p = 0; p < 13; p++) {
            Check.score(x, p & 1, p, 50);
        }
        return x;
    }

    private static void bestSumIsNotNegative() {
        CHECK.sentence("32: Negative normalized scores cannot occur in such a sum, because the funding line is not negative");
        GrantAllocation x = oneOf(10, 1, 100);
        CHECK.same("-50000", x.normalized(0), -50000);
        CHECK.same("the nine others", x.bestSum(0), 9 * 61111);
        GrantAllocation zero = oneOf(5, 1, 100);
        CHECK.same("a score of 0 adds nothing", zero.bestSum(0), 4 * 62500);
        GrantAllocation high = oneOf(10, 100, 1);
        CHECK.same("a score above 100000", high.bestSum(0), 150000 + 9 * 38888);
    }

    private static void noSuchPanel() {
        CHECK.sentence("32: Throws IndexOutOfBoundsException if there is no such panel");
        GrantAllocation x = full("panel 1;");
        for (int panel : NO_PANEL) {
            CHECK.fails("panel " + panel, IndexOutOfBoundsException.class, () -> x.bestSum(panel));
        }
        GrantAllocation y = three("panel 1;", "1", "1", "1");
        CHECK.fails("panel 1 of one", IndexOutOfBoundsException.class, () -> y.bestSum(1));
    }

    // ---- promise 33

    private static void lineForNumbers() {
        CHECK.sentence("33: number: 1 to 16");
        GrantAllocation x = full("panel 144;");
        for (int mode = 0; mode <= 2; mode++) {
            for (int number = 1; number <= 16; number++) {
                CHECK.same("number " + number, x.lineFor(mode, number), 50000);
            }
            CHECK.same("money for fifteen", full("panel 143;").lineFor(mode, 16), -1);
            CHECK.same("money for fifteen", full("panel 143;").lineFor(mode, 15), 50000);
        }
        CHECK.sentence("33: Throws IllegalArgumentException if mode or number is out of range");
        for (int number : new int[] {0, 17, -1, Integer.MIN_VALUE, Integer.MAX_VALUE}) {
            CHECK.fails("number " + number, IllegalArgumentException.class, () -> x.lineFor(0, number));
            CHECK.fails("number " + number + " on a new object", IllegalArgumentException.class,
                    () -> new GrantAllocation().lineFor(0, number));
        }
        for (int mode : NO_MODE) {
            CHECK.fails("mode " + mode, IllegalArgumentException.class, () -> x.lineFor(mode, 1));
            CHECK.fails("both", IllegalArgumentException.class, () -> x.lineFor(mode, 0));
        }
    }

    private static void lineFor() {
        CHECK.sentence("33: the greatest funding line with which at least some number of proposals would get something by"
                + " a mode");
        GrantAllocation x = three("panel 100;", "60", "50 least 40", "40");
        int[][] due = {{80000, 20000, -1}, {80000, 20000, -1}, {80000, 50000, -1}};
        for (int mode = 0; mode <= 2; mode++) {
            for (int number = 1; number <= 3; number++) {
                int line = due[mode][number - 1];
                CHECK.same("mode " + mode + ", number " + number, x.lineFor(mode, number), line);
                if (line >= 0) {
                    x.setLine(line);
                    CHECK.same("with this line", Integer.bitCount(x.funded(mode)) >= number, true);
                    x.setLine(line + 1);
                    CHECK.same("with the next one", Integer.bitCount(x.funded(mode)) >= number, false);
                }
            }
        }
        CHECK.same("more than asked for counts: two at the same score", oneOf(5, 1, 100).lineFor(0, 2), 62500);
        CHECK.same("all four of them", oneOf(5, 1, 100).lineFor(0, 4), 62500);
    }

    private static void lineForAtTheEnds() {
        CHECK.sentence("33: Returns the funding line, 0 to 100000; NONE if there is none");
        CHECK.same("100000", oneOf(5, 100, 1).lineFor(0, 1), 100000);
        CHECK.same("a score of 110000", oneOf(6, 100, 1).lineFor(0, 1), 100000);
        CHECK.same("a score of 150000", oneOf(10, 100, 1).lineFor(0, 1), 100000);
        CHECK.same("0", oneOf(5, 1, 100).lineFor(0, 5), 0);
        CHECK.same("a negative score", oneOf(6, 1, 100).lineFor(0, 6), -1);
        CHECK.same("the others", oneOf(6, 1, 100).lineFor(0, 5), 62000);
        CHECK.same("no money", three("panel 0;", "1", "1", "1").lineFor(1, 1), -1);
        CHECK.same("no proposal", Check.loaded("panel 5;").lineFor(2, 1), -1);
        CHECK.same("none is ranked", Check.loaded("panel 5;proposal 0 2 0 1;").lineFor(2, 1), -1);
        // Only what is above 100000 gets something, and only with a line that leaves the others out.
        GrantAllocation x = Check.loaded("panel 0;pool 9;reviewer 0 1 10 topics 0;proposal 0 2 0 10;" + "proposal 0 2 0 9;".repeat(9));
        for (int p = 0; p < 10; p++) {
            Check.score(x, 0, p, p == 0 ? 100 : 1);
        }
        CHECK.same("the best one is too dear", x.lineFor(0, 1), 38888);
    }

    private static void lineForWithThePool() {
        CHECK.sentence("33: would get something: from the pool, too");
        CHECK.same("three from the pool", three("panel 0;pool 30;", "10", "10", "10").lineFor(0, 3), 20000);
        CHECK.same("two from the pool", three("panel 0;pool 29;", "10", "10", "10").lineFor(0, 3), -1);
        // With a lower line the budget of panel 1 goes to its own dear proposal and is missing in the pool.
        GrantAllocation x = Check.loaded("panel 0;panel 20;reviewer 0 1 9 topics 0;reviewer 1 1 9 topics 0;"
                + "proposal 0 2 0 10;proposal 0 2 0 10;proposal 1 2 0 20;proposal 1 2 0 21;");
        Check.score(x, 0, 0, 5);
        Check.score(x, 0, 1, 5);
        Check.score(x, 1, 2, 1);
        Check.score(x, 1, 3, 2);
        for (int mode = 0; mode <= 2; mode++) {
            x.setLine(30000);
            CHECK.same("the lowest line funds fewer", Integer.bitCount(x.funded(mode)), mode == 1 ? 1 : 2);
            CHECK.same("a higher one funds two", x.lineFor(mode, 2), 50000);
        }
    }

    private static void lineForIsNoChange() {
        CHECK.sentence("33: Returns the greatest funding line: the line itself stays, and does not count");
        GrantAllocation x = three("panel 100;line 99999;", "10", "10", "10");
        CHECK.same("lineFor", x.lineFor(0, 3), 20000);
        CHECK.same("the line stays", x.funded(0), 0);
        CHECK.same("no change", x.undo(), 5);
        CHECK.same("the line", x.setLine(0), 99999);
    }

    private static void modes() {
        GrantAllocation x = three("panel 100;", "10", "10", "10");
        for (int mode : NO_MODE) {
            CHECK.sentence("28: Throws IllegalArgumentException if mode is out of range");
            CHECK.fails("mode " + mode, IllegalArgumentException.class, () -> x.amount(mode, 0));
            CHECK.sentence("29: Throws IllegalArgumentException if mode is out of range");
            CHECK.fails("mode " + mode, IllegalArgumentException.class, () -> x.left(mode, 0));
            CHECK.sentence("30: Throws IllegalArgumentException if mode is out of range");
            CHECK.fails("mode " + mode, IllegalArgumentException.class, () -> x.poolLeft(mode));
            CHECK.fails("mode " + mode + " of a new object", IllegalArgumentException.class, () -> new GrantAllocation().poolLeft(mode));
            CHECK.sentence("31: Throws IllegalArgumentException if mode is out of range");
            CHECK.fails("mode " + mode, IllegalArgumentException.class, () -> x.funded(mode));
            CHECK.fails("mode " + mode + " of a new object", IllegalArgumentException.class, () -> new GrantAllocation().funded(mode));
        }
    }
}
