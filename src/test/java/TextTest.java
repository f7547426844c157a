/** Promises 1 to 6: a new object, append, truncate, load, errorCode, errorPosition. */
public final class TextTest {
    private static final Check CHECK = new Check();
    private static final String PANEL = "panel 500;";
    private static final String REVIEWER = "reviewer 0 1 5 topics 3;";
    private static final String PROPOSAL = "proposal 0 2 3 100;";

    public static void main(String[] args) {
        newObject();
        append();
        truncate();
        loadReplaces();
        failedLoadKeeps();
        goodTexts();
        wrongTokens();
        wrongNumbers();
        tooMany();
        latestError();
        CHECK.end();
    }

    private static void newObject() {
        GrantAllocation x = new GrantAllocation();
        CHECK.same("NONE", GrantAllocation.NONE, -1);
        for (int what = 0; what <= 6; what++) {
            CHECK.same("new count " + what, x.count(what), 0);
        }
        for (int mode = 0; mode <= 2; mode++) {
            CHECK.same("new poolLeft", x.poolLeft(mode), 0);
            CHECK.same("new funded", x.funded(mode), 0);
            int m = mode;
            CHECK.same("new lineFor", x.lineFor(m, 1), -1);
            CHECK.fails("new amount", IndexOutOfBoundsException.class, () -> x.amount(m, 0));
            CHECK.fails("new left", IndexOutOfBoundsException.class, () -> x.left(m, 0));
        }
        CHECK.same("new errorCode", x.errorCode(), 0);
        CHECK.same("new errorPosition", x.errorPosition(), -1);
        CHECK.fails("new truncate", IndexOutOfBoundsException.class, () -> x.truncate(1));
        CHECK.fails("new undo", IllegalStateException.class, () -> x.undo());
        CHECK.fails("new ranked", IndexOutOfBoundsException.class, () -> x.ranked(-1, 0));
        CHECK.fails("new loadOf", IndexOutOfBoundsException.class, () -> x.loadOf(0));
        CHECK.fails("new assignAll", IndexOutOfBoundsException.class, () -> x.assignAll(0));
        CHECK.same("new line", x.setLine(70), 0);
        CHECK.same("undo on an object without a text", x.undo(), 0);
        CHECK.same("line is back", x.setLine(70), 0);
    }

    private static void append() {
        GrantAllocation x = new GrantAllocation();
        int blanks = 0x20202020;
        CHECK.same("append", x.append(0x70616e65, 0x6c20313b, 0x70616e65, 0x6c20323b, blanks), 20);
        CHECK.same("append of the bytes in order: load", x.load(), 0);
        CHECK.same("append of the bytes in order: panels", x.count(0), 2);
        CHECK.same("append of the bytes in order: budget 0", x.left(0, 0), 1);
        CHECK.same("append of the bytes in order: budget 1", x.left(0, 1), 2);
        for (int length = 20; length <= 800; length += 20) {
            CHECK.same("append to " + length, x.append(blanks, blanks, blanks, blanks, blanks), length);
        }
        CHECK.fails("append to a full buffer", IllegalStateException.class, () -> x.append(1, 2, 3, 4, 5));
        CHECK.same("the length stays", x.truncate(800), 800);
        x.truncate(781);
        CHECK.fails("append behind 781", IllegalStateException.class, () -> x.append(1, 2, 3, 4, 5));
        x.truncate(780);
        CHECK.same("append behind 780", x.append(blanks, blanks, blanks, blanks, blanks), 800);
        CHECK.same("800 blanks", x.load(), 0);
        x.append(0xffffffff, -1, 0x80000000, 0, 5);
        CHECK.fails("bytes above 127", IllegalArgumentException.class, () -> x.load());
        CHECK.same("bytes above 127: position", x.errorPosition(), 0);
        x.append(blanks, blanks, 0x2020f320, blanks, blanks);
        CHECK.fails("a byte that is s with the high bit", IllegalArgumentException.class, () -> x.load());
        CHECK.same("a byte that is s with the high bit: position", x.errorPosition(), 10);
    }

    private static void truncate() {
        GrantAllocation x = new GrantAllocation();
        Check.type(x, "panel 12345;");
        CHECK.fails("truncate below 0", IndexOutOfBoundsException.class, () -> x.truncate(-1));
        CHECK.fails("truncate above the length", IndexOutOfBoundsException.class, () -> x.truncate(13));
        CHECK.fails("truncate far above", IndexOutOfBoundsException.class, () -> x.truncate(Integer.MAX_VALUE));
        CHECK.fails("truncate far below", IndexOutOfBoundsException.class, () -> x.truncate(Integer.MIN_VALUE));
        CHECK.same("truncate to the length", x.truncate(12), 12);
        CHECK.same("truncate", x.truncate(8), 8);
        CHECK.fails("truncate to more again", IndexOutOfBoundsException.class, () -> x.truncate(9));
        int semicolon = 0x3b202020;
        CHECK.same("append behind the cut", x.append(semicolon, 0, 0, 0, 0), 28);
        x.truncate(9);
        x.load();
        CHECK.same("the budget that was cut", x.left(0, 0), 12);
        Check.type(x, "panel 512;line 3;");
        x.truncate(7);
        CHECK.fails("a number that was cut", IllegalArgumentException.class, () -> x.load());
        CHECK.same("what was cut is no part of the number", x.errorPosition(), 7);
        Check.type(x, "panel 1;");
        CHECK.same("truncate to 0", x.truncate(0), 0);
        x.load();
        CHECK.same("nothing was left of the text", x.count(0), 0);
    }

    private static void loadReplaces() {
        GrantAllocation x = Check.loaded(
                "panel 5;reviews 3;line 7;pool 9;limit 4;reviewer 0 1 2 topics 3;proposal 0 2 3 4;conflict 0 0;");
        CHECK.same("conflicts of the text", x.count(5), 1);
        x.setLine(8);
        x.setLine(9);
        Check.type(x, PANEL + PANEL + REVIEWER + PROPOSAL + PROPOSAL + PROPOSAL);
        CHECK.same("load", x.load(), 3);
        CHECK.same("the panels are replaced", x.count(0), 2);
        CHECK.same("the reviewers are replaced", x.count(1), 1);
        CHECK.same("the conflicts are replaced", x.count(5), 0);
        CHECK.same("the pool is replaced", x.poolLeft(0), 1000);
        CHECK.fails("nothing can be undone", IllegalStateException.class, () -> x.undo());
        CHECK.same("the line is replaced", x.setLine(1), 0);
        CHECK.fails("the buffer is empty", IndexOutOfBoundsException.class, () -> x.truncate(1));
        x.assignAll(0);
        CHECK.same("reviews", x.count(3), 3);
        Check.type(x, PANEL + REVIEWER + PROPOSAL);
        x.load();
        CHECK.same("there are no reviews", x.count(3), 0);
        Check.type(x, PANEL + REVIEWER + PROPOSAL + PROPOSAL + "conflict 0 0;conflict 0 1;conflict 0 1;");
        x.load();
        CHECK.same("conflicts of one reviewer", x.count(5), 2);
        for (int times = 0; times < 2; times++) {
            Check.type(x, PANEL + REVIEWER + PROPOSAL + PROPOSAL);
            x.load();
            CHECK.same("no conflict of an earlier text", x.count(5), 0);
        }
        x.load();
        CHECK.same("an empty text", x.count(0) + x.count(1) + x.count(2), 0);
    }

    private static void failedLoadKeeps() {
        GrantAllocation x = Check.loaded(PANEL + REVIEWER + PROPOSAL + PROPOSAL + "line 30;pool 6;conflict 0 1;");
        x.assign(0, 0);
        x.setScore(0, 0, 50);
        x.setLine(40);
        Check.type(x, "panel 1;panel 2;line 3;pool 4;reviews 1;limit 1;" + REVIEWER + REVIEWER + "bad");
        CHECK.fails("load with an error", IllegalArgumentException.class, () -> x.load());
        CHECK.fails("the buffer is empty", IndexOutOfBoundsException.class, () -> x.truncate(1));
        CHECK.same("panels stay", x.count(0), 1);
        CHECK.same("reviewers stay", x.count(1), 1);
        CHECK.same("proposals stay", x.count(2), 2);
        CHECK.same("reviews stay", x.count(3), 1);
        CHECK.same("scores stay", x.count(4), 1);
        CHECK.same("conflicts stay", x.count(5), 1);
        CHECK.same("pool and budget stay", x.poolLeft(0), 406);
        CHECK.same("changes stay", x.undo(), 2);
        CHECK.same("line of the text", x.setLine(0), 30);
        CHECK.same("the next text begins at 0", x.append(0x20202020, 0, 0, 0, 0), 20);
    }

    private static void goodTexts() {
        good("", 0);
        good(" \n \n", 0);
        good("panel 0;", 1);
        good("panel5;", 1);
        good("panel 100000;", 1);
        good("panel 000005;", 1);
        good("\npanel\n5\n;\n", 1);
        good("panel 1;panel 2;panel 3;panel 4;", 4);
        good("line 100000;line 0;pool 100000;pool 0;limit 99;limit 0;reviews 1;reviews 4;", 0);
        good(PANEL + "reviewer0 0 1topics0;reviewer 0 9 10 topics 7 7 0 7;", 1);
        good(PANEL + "proposal 0 0 0 1;proposal 0 9 7 9999;proposal 0 1 1 50 least 1;proposal 0 1 1 50least50;", 1);
        good(PANEL + REVIEWER + PROPOSAL + "conflict 0 0;conflict 0 0;", 1);
    }

    private static void good(String text, int panels) {
        GrantAllocation x = new GrantAllocation();
        Check.type(x, text);
        CHECK.same("load of " + text, Check.answer(() -> x.load() >= 0), true);
        CHECK.same("panels of " + text, x.count(0), panels);
        CHECK.same("errorCode of " + text, x.errorCode(), 0);
        CHECK.same("errorPosition of " + text, x.errorPosition(), -1);
    }

    private static void wrongTokens() {
        for (String marked : new String[] {
            "^;", "^5;", "^fanel 5;", "^panez 5;", "^panelz 5;", "^apanel 5;", "^rine 5;", "^`", "^{",
            "^x;", "^panels 5;", "^pane 5;", "^pAnel 5;", "^Panel 5;", "^topics 5;", "^least 5;", "^,",
            "panel^", "panel ^", "panel 5^", "panel 5 ^", "panel 5 \n^", "panel^;", "panel 5^,", "panel 5 ^6;",
            "panel ^x;", "panel ^-5;", "panel ^0000005;", "panel ^1000000;", "panel ^12345678901234567890;",
            "panel^\t5;", "panel 5;^;", "panel 5; panel5^x;", "panel ^panel 5;", "panel 5 ^panel 5;",
            "line^;", "line 5^", "pool ^x;", "limit 5 ^5;", "reviews^", "conflict^;", "^reviewers 1;", "^review 1;",
            "panel 5;reviewer 0 1 ^topics 3;", "panel 5;reviewer 0 1 2 ^3;", "panel 5;reviewer 0 1 2 ^;",
            "panel 5;reviewer 0 1 2 ^topic 3;", "panel 5;reviewer 0 1 2 topics^;", "panel 5;reviewer 0 1 2 topics^",
            "panel 5;reviewer 0 1 2 topics 3^", "panel 5;reviewer 0 1 2 topics 3 ^topics 4;",
            "panel 5;reviewer 0 1 2 topics 3 ^0000000;", "panel 5;proposal 0 1 2^;", "panel 5;proposal 0 1 2 3 ^4;",
            "panel 5;proposal 0 1 2 3 least^;", "panel 5;proposal 0 1 2 3 least 3 ^least 3;",
            "panel 5;proposal 0 1 2 ^least 3;", "panel 5;proposal 0 1 2 3 ^most 3;",
            "panel 5;reviewer 0 1 2 topics 3;proposal 0 1 2 3;conflict 0^;",
            "panel 5;reviewer 0 1 2 topics 3;proposal 0 1 2 3;conflict 0 0 ^0;",
            "panel 1;panel 1;panel 1;panel 1;line ^panel 1;"}) {
            CHECK.bad(marked, 1);
        }
    }

    private static void wrongNumbers() {
        for (String marked : new String[] {
            "panel ^100001;", "panel ^999999 x", "line ^100001;", "pool ^100001;", "limit ^100;",
            "reviews ^0;", "reviews ^5;", "reviewer ^0 1 2 topics 3;", "panel 5;reviewer ^1 1 2 topics 3;",
            "panel 5;reviewer 0 ^10 2 topics 3;", "panel 5;reviewer 0 1 ^0 topics 3;",
            "panel 5;reviewer 0 1 ^11 topics 3;", "panel 5;reviewer 0 1 2 topics ^8;",
            "panel 5;reviewer 0 1 2 topics 0 7 ^8 9;", "proposal ^0 1 2 3;", "panel 5;proposal ^1 1 2 3;",
            "panel 5;proposal 0 ^10 2 3;", "panel 5;proposal 0 1 ^8 3;", "panel 5;proposal 0 1 2 ^0;",
            "panel 5;proposal 0 1 2 ^10000;", "panel 5;proposal 0 1 2 30 least ^0;",
            "panel 5;proposal 0 1 2 30 least ^31;", "conflict ^0 0;",
            "panel 5;reviewer 0 1 2 topics 3;conflict 0 ^0;proposal 0 1 2 3;",
            "panel 5;proposal 0 1 2 3;conflict ^0 0;reviewer 0 1 2 topics 3;",
            "panel 5;reviewer 0 1 2 topics 3;proposal 0 1 2 3;conflict 0 ^1;",
            "panel 5;reviewer 0 1 2 topics 3;proposal 0 1 2 3;conflict ^1 0;"}) {
            CHECK.bad(marked, 2);
        }
    }

    private static void tooMany() {
        String panels = "panel 1;".repeat(4);
        String reviewers = "panel 1;" + "reviewer 0 1 2 topics 3;".repeat(12);
        String proposals = "panel 1;" + "proposal 0 1 2 3;".repeat(16);
        CHECK.bad(panels + "^panel 1;", 3);
        CHECK.bad(panels + "^panel", 3);
        CHECK.bad(panels + "^panel x", 3);
        CHECK.bad(reviewers + " ^reviewer 9 9 9", 3);
        CHECK.bad(proposals + "\n^proposal 9", 3);
        CHECK.bad(panels + "^panela 1;", 1);
        good(reviewers + proposals.substring(8), 1);
    }

    private static void latestError() {
        GrantAllocation x = new GrantAllocation();
        Check.type(x, "  x");
        Check.answer(() -> x.load());
        CHECK.same("first error", x.errorPosition() * 10 + x.errorCode(), 21);
        Check.type(x, "line 200000;");
        CHECK.same("the error stays until load", x.errorPosition() * 10 + x.errorCode(), 21);
        Check.answer(() -> x.load());
        CHECK.same("second error", x.errorPosition() * 10 + x.errorCode(), 52);
        x.load();
        CHECK.same("errorCode of a good text", x.errorCode(), 0);
        CHECK.same("errorPosition of a good text", x.errorPosition(), -1);
    }
}
