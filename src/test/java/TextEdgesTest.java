/** The boundary cases of THE TEXT and of promises 1 to 6, a test for each sentence. */
public final class TextEdgesTest {
    private static final Check CHECK = new Check();
    private static final int BLANKS = 0x20202020;
    private static final String BASE = "panel 5;reviewer 0 1 2 topics 3;proposal 0 2 3 30;";
    private static final String FULL = "panel 7;".repeat(4) + "reviewer 0 1 9 topics 0;".repeat(12)
            + "proposal 0 2 0 1;".repeat(16);

    public static void main(String[] args) {
        newObject();
        newObjectHasNoThings();
        append();
        appendAtTheEnd();
        truncate();
        loadReplaces();
        loadEmptiesTheBuffer();
        loadReturns();
        loadWithAnError();
        errorCodeAndPosition();
        bufferOf800();
        longestTokens();
        everyByte();
        blanks();
        text();
        statements();
        ranges();
        valuesAtTheEdges();
        repeatedTopic();
        leastNotGiven();
        conflictAgain();
        withoutStatement();
        lastOneCounts();
        earlierStatement();
        positions();
        firstError();
        sameError();
        codeOne();
        codeTwo();
        codeThree();
        CHECK.end();
    }

    // ---- promises 1 to 6

    private static void newObject() {
        CHECK.sentence("The constants: NONE = -1");
        CHECK.same("NONE", GrantAllocation.NONE, -1);

        CHECK.sentence("1: an allocation without panels, reviewers and proposals, with 2 reviews per proposal, funding"
                + " line 0, an empty pool, appeal limit 20, and an empty text buffer");
        GrantAllocation x = new GrantAllocation();
        CHECK.same("panels", x.count(0), 0);
        CHECK.same("reviewers", x.count(1), 0);
        CHECK.same("proposals", x.count(2), 0);
        CHECK.same("reviews, scores, conflicts, appeals", x.count(3) + x.count(4) + x.count(5) + x.count(6), 0);
        CHECK.same("pool", x.poolLeft(0) + x.poolLeft(1) + x.poolLeft(2), 0);
        CHECK.same("line", x.setLine(5), 0);
        CHECK.same("buffer", x.truncate(0), 0);
        CHECK.fails("buffer", IndexOutOfBoundsException.class, () -> x.truncate(1));
        CHECK.same("the buffer's first bytes", x.append(BLANKS, BLANKS, BLANKS, BLANKS, BLANKS), 20);
        CHECK.same("an empty text on a new object", new GrantAllocation().load(), 0);
    }

    private static void newObjectHasNoThings() {
        CHECK.sentence("1: an allocation without panels, reviewers and proposals: the number 0 names nothing");
        GrantAllocation x = new GrantAllocation();
        for (int n : new int[] {-1, 0, 1}) {
            CHECK.fails("isConflict", IndexOutOfBoundsException.class, () -> x.isConflict(n, n));
            CHECK.fails("match", IndexOutOfBoundsException.class, () -> x.match(n, n));
            CHECK.fails("declare", IndexOutOfBoundsException.class, () -> x.declare(n, n));
            CHECK.fails("assign", IndexOutOfBoundsException.class, () -> x.assign(n, n));
            CHECK.fails("unassign", IndexOutOfBoundsException.class, () -> x.unassign(n, n));
            CHECK.fails("assignAll", IndexOutOfBoundsException.class, () -> x.assignAll(n));
            CHECK.fails("reviewerOf", IndexOutOfBoundsException.class, () -> x.reviewerOf(n, 0));
            CHECK.fails("loadOf", IndexOutOfBoundsException.class, () -> x.loadOf(n));
            CHECK.fails("matchSum", IndexOutOfBoundsException.class, () -> x.matchSum(n));
            CHECK.fails("mostReviews", IndexOutOfBoundsException.class, () -> x.mostReviews(n));
            CHECK.fails("bestMatchSum", IndexOutOfBoundsException.class, () -> x.bestMatchSum(n));
            CHECK.fails("setScore", IndexOutOfBoundsException.class, () -> x.setScore(n, n, 5));
            CHECK.fails("adjusted", IndexOutOfBoundsException.class, () -> x.adjusted(n, n));
            CHECK.fails("normalized", IndexOutOfBoundsException.class, () -> x.normalized(n));
            CHECK.fails("leniency", IndexOutOfBoundsException.class, () -> x.leniency(n));
            CHECK.fails("disagreement", IndexOutOfBoundsException.class, () -> x.disagreement(n));
            CHECK.fails("rank", IndexOutOfBoundsException.class, () -> x.rank(n));
            CHECK.fails("ranked", IndexOutOfBoundsException.class, () -> x.ranked(n, 0));
            CHECK.fails("tieRound", IndexOutOfBoundsException.class, () -> x.tieRound(n, n));
            CHECK.fails("amount", IndexOutOfBoundsException.class, () -> x.amount(0, n));
            CHECK.fails("left", IndexOutOfBoundsException.class, () -> x.left(0, n));
            CHECK.fails("bestSum", IndexOutOfBoundsException.class, () -> x.bestSum(n));
            CHECK.fails("appeal", IndexOutOfBoundsException.class, () -> x.appeal(n, n));
        }
        for (int mode = 0; mode <= 2; mode++) {
            CHECK.same("funded", x.funded(mode), 0);
            CHECK.same("lineFor", x.lineFor(mode, 1) + x.lineFor(mode, 16), -2);
        }
        CHECK.fails("undo", IllegalStateException.class, () -> x.undo());
    }

    private static void append() {
        CHECK.sentence("2: Appends 20 bytes to the text buffer: the four bytes of each argument in order, the most"
                + " significant byte first");
        // The wrong byte X stands at each of the 20 places once; the error tells where it went.
        for (int place = 0; place < 20; place++) {
            int[] words = {BLANKS, BLANKS, BLANKS, BLANKS, BLANKS};
            words[place / 4] += ('X' - ' ') << 8 * (3 - place % 4);
            GrantAllocation x = new GrantAllocation();
            x.append(BLANKS, BLANKS, BLANKS, BLANKS, BLANKS);
            CHECK.same("append", x.append(words[0], words[1], words[2], words[3], words[4]), 40);
            CHECK.fails("load", IllegalArgumentException.class, () -> x.load());
            CHECK.same("place " + place, x.errorPosition(), 20 + place);
        }
        for (int place = 0; place < 4; place++) {
            GrantAllocation x = new GrantAllocation();
            x.append(BLANKS, BLANKS, BLANKS | 0x80 << 8 * (3 - place), BLANKS, BLANKS);
            CHECK.fails("a byte above 127", IllegalArgumentException.class, () -> x.load());
            CHECK.same("a byte above 127 is one byte", x.errorPosition(), 8 + place);
        }
    }

    private static void appendAtTheEnd() {
        CHECK.sentence("2: Throws IllegalStateException if the length would exceed 800");
        GrantAllocation x = new GrantAllocation();
        for (int length = 20; length <= 780; length += 20) {
            CHECK.same("append", x.append(BLANKS, BLANKS, BLANKS, BLANKS, BLANKS), length);
        }
        CHECK.same("exactly 800", x.append(BLANKS, BLANKS, BLANKS, BLANKS, BLANKS), 800);
        CHECK.fails("820", IllegalStateException.class, () -> x.append(BLANKS, BLANKS, BLANKS, BLANKS, BLANKS));
        CHECK.same("nothing was appended", x.truncate(800), 800);
        for (int length = 799; length > 780; length--) {
            x.truncate(length);
            CHECK.fails("behind " + length, IllegalStateException.class, () -> x.append(1, 1, 1, 1, 1));
        }
        CHECK.same("the length stays", x.truncate(781), 781);
        CHECK.fails("the length stays", IndexOutOfBoundsException.class, () -> x.truncate(782));
        x.truncate(780);
        CHECK.same("behind 780", x.append(BLANKS, BLANKS, BLANKS, BLANKS, BLANKS), 800);
        CHECK.same("the bytes of the refused calls are not there", x.load(), 0);
    }

    private static void truncate() {
        CHECK.sentence("3: Throws IndexOutOfBoundsException if length is negative or greater than the current length");
        GrantAllocation x = new GrantAllocation();
        for (int length : new int[] {-1, 1, 800, 801, Integer.MAX_VALUE, Integer.MIN_VALUE}) {
            CHECK.fails("an empty buffer, " + length, IndexOutOfBoundsException.class, () -> x.truncate(length));
        }
        CHECK.same("an empty buffer, 0", x.truncate(0), 0);
        Check.type(x, "panel 1;panel 2;");
        for (int length : new int[] {-1, 17, 20, 800, 801, Integer.MAX_VALUE, Integer.MIN_VALUE}) {
            CHECK.fails("16 bytes, " + length, IndexOutOfBoundsException.class, () -> x.truncate(length));
        }
        CHECK.same("the current length", x.truncate(16), 16);
        CHECK.same("one less", x.truncate(15), 15);
        CHECK.fails("the former length", IndexOutOfBoundsException.class, () -> x.truncate(16));
        CHECK.same("the first statement", x.truncate(8), 8);
        x.load();
        CHECK.same("one panel", x.count(0), 1);
        Check.type(x, "panel 3;");
        CHECK.same("to nothing", x.truncate(0), 0);
        CHECK.same("and again", x.truncate(0), 0);
        x.load();
        CHECK.same("no panel", x.count(0), 0);
        GrantAllocation full = new GrantAllocation();
        Check.type(full, " ".repeat(800));
        CHECK.fails("801 of 800", IndexOutOfBoundsException.class, () -> full.truncate(801));
        CHECK.same("800 of 800", full.truncate(800), 800);
    }

    private static GrantAllocation used() {
        GrantAllocation x = Check.loaded("panel 50;panel 60;reviews 4;line 11;pool 13;limit 0;"
                + "reviewer 0 1 9 topics 3;".repeat(3) + "reviewer 1 1 9 topics 3;"
                + "proposal 0 2 3 30;proposal 0 2 3 20;proposal 1 2 3 10;conflict 2 1;");
        x.assignAll(0);
        Check.score(x, 3, 2, 40);
        x.setScore(0, 0, 10);
        x.setScore(1, 0, 90);
        x.appeal(0, 0);
        x.setLine(44);
        return x;
    }

    private static void loadReplaces() {
        CHECK.sentence("4: Loads the text: everything is replaced, there are no reviews, and nothing can be undone");
        GrantAllocation x = used();
        Check.type(x, BASE);
        CHECK.same("load", x.load(), 1);
        CHECK.same("as if loaded into a new object", Snapshot.of(x), Snapshot.of(Check.loaded(BASE)));
        CHECK.fails("undo", IllegalStateException.class, () -> x.undo());
        CHECK.same("the line", x.setLine(7), 0);
        CHECK.same("only this can be undone", x.undo(), 0);
        GrantAllocation y = used();
        y.load();
        CHECK.same("the empty text replaces everything, too", Snapshot.of(y), Snapshot.of(new GrantAllocation()));
        CHECK.fails("undo", IllegalStateException.class, () -> y.undo());
        replacedAfterSeveralTexts();
        GrantAllocation z = used();
        for (int times = 0; times < 3; times++) {
            Check.type(z, "panel 5;reviews 1;reviewer 0 1 2 topics 3;reviewer 0 3 2 topics 7;proposal 0 2 3 30;");
            z.load();
            CHECK.same("the same text again: conflicts and appeals", z.count(5) + z.count(6), 0);
            CHECK.same("the same text again: one review per proposal", z.assignAll(0), 1);
            z.declare(1, 0);
        }
    }

    /** Nothing of any earlier text stays, were it loaded or refused. */
    private static void replacedAfterSeveralTexts() {
        String rich = "reviews 4;line 11;pool 13;limit 0;" + FULL + "conflict 0 0;conflict 11 15;";
        String poor = "panel 5;" + "reviewer 0 1 2 topics 3;".repeat(3) + "proposal 0 2 3 30;";
        for (int times = 1; times <= 4; times++) {
            GrantAllocation x = new GrantAllocation();
            for (int n = 0; n < times; n++) {
                Check.type(x, rich + (n == 2 ? "x" : ""));
                Check.answer(() -> x.load());
            }
            Check.type(x, poor);
            CHECK.same("load after " + times + " texts", x.load(), 1);
            CHECK.same("as if loaded into a new object", Snapshot.of(x), Snapshot.of(Check.loaded(poor)));
            CHECK.same("the line after " + times + " texts", x.setLine(0), 0);
            CHECK.same("the reviews per proposal after " + times + " texts", x.assignAll(0), 2);
            x.setScore(0, 0, 30);
            x.setScore(1, 0, 50);
            CHECK.same("the limit after " + times + " texts", x.appeal(0, 0), false);
            CHECK.same("the pool after " + times + " texts", x.poolLeft(0), 5);
        }
    }

    private static void loadEmptiesTheBuffer() {
        CHECK.sentence("4: The buffer is empty afterwards in every case");
        GrantAllocation x = new GrantAllocation();
        Check.type(x, BASE);
        x.load();
        CHECK.fails("after a good text", IndexOutOfBoundsException.class, () -> x.truncate(1));
        CHECK.same("the next text begins at 0", x.append(BLANKS, BLANKS, BLANKS, BLANKS, BLANKS), 20);
        x.load();
        for (String text : new String[] {"panel", "panel 100001;", "panel 1;".repeat(5), "!"}) {
            Check.type(x, text);
            CHECK.fails("load of " + text, IllegalArgumentException.class, () -> x.load());
            CHECK.fails("after " + text, IndexOutOfBoundsException.class, () -> x.truncate(1));
            CHECK.same("the next text is loaded alone", x.load(), 0);
        }
        Check.type(x, "panel 123456");
        CHECK.fails("a long text", IllegalArgumentException.class, () -> x.load());
        Check.type(x, "panel 1");
        CHECK.fails("a short text", IllegalArgumentException.class, () -> x.load());
        CHECK.same("nothing of the long one is read", x.errorPosition(), 7);
        x.load();
        CHECK.fails("after an empty text", IndexOutOfBoundsException.class, () -> x.truncate(1));
    }

    private static void loadReturns() {
        CHECK.sentence("4: Returns the number of proposals");
        for (int proposals = 0; proposals <= 16; proposals++) {
            GrantAllocation x = new GrantAllocation();
            Check.type(x, "panel 5;" + "proposal 0 1 2 3;".repeat(proposals) + "reviewer 0 1 2 topics 3;");
            CHECK.same("load", x.load(), proposals);
        }
    }

    private static void loadWithAnError() {
        CHECK.sentence("4: Throws IllegalArgumentException if the text has an error; everything else stays then, but the"
                + " error code and position are set");
        failedLoad("^bad", 1);
        failedLoad("panel 9^", 1);
        failedLoad("reviewer ^0 1 2 topics 3;", 2);
        failedLoad("conflict ^0 0;", 2);
        failedLoad("panel 1;panel 1;panel 1;panel 1;^panel 1;", 3);
        failedLoad("panel 9;panel 9;reviews 1;line 1;pool 1;limit 99;reviewer 0 5 1 topics 7;proposal 0 1 2 3;"
                + "conflict 0 0;proposal 0 1^", 1);
    }

    private static void failedLoad(String marked, int code) {
        GrantAllocation x = used();
        GrantAllocation y = used();
        Check.type(x, marked.replace("^", ""));
        CHECK.fails("load of " + marked, IllegalArgumentException.class, () -> x.load());
        CHECK.same("code of " + marked, x.errorCode(), code);
        CHECK.same("position of " + marked, x.errorPosition(), marked.indexOf('^'));
        for (int undone = 0; undone < 6; undone++) {
            CHECK.same("everything else stays", Snapshot.withoutError(x), Snapshot.withoutError(y));
            CHECK.same("the changes can be undone", x.undo(), y.undo());
        }
        CHECK.same("the line", x.setLine(0), 11);
    }

    private static void errorCodeAndPosition() {
        CHECK.sentence("5: Returns 1 to 3; 0 if there was no error or no call yet");
        GrantAllocation x = new GrantAllocation();
        CHECK.same("no call yet", x.errorCode(), 0);
        Check.type(x, "panel 200000;");
        CHECK.same("not before load", x.errorCode(), 0);
        Check.answer(() -> x.load());
        CHECK.same("an error", x.errorCode(), 2);
        Check.type(x, "panel");
        Check.answer(() -> x.load());
        CHECK.same("the latest error", x.errorCode(), 1);
        Check.type(x, "panel 1;".repeat(5));
        Check.answer(() -> x.load());
        CHECK.same("the latest error", x.errorCode(), 3);
        CHECK.fails("another call that fails", IllegalArgumentException.class, () -> x.count(7));
        CHECK.same("of load alone", x.errorCode(), 3);
        x.load();
        CHECK.same("no error", x.errorCode(), 0);

        CHECK.sentence("6: Returns the position; NONE if there was no error or no call yet");
        GrantAllocation y = new GrantAllocation();
        CHECK.same("no call yet", y.errorPosition(), -1);
        Check.type(y, "x");
        CHECK.same("not before load", y.errorPosition(), -1);
        Check.answer(() -> y.load());
        CHECK.same("position 0", y.errorPosition(), 0);
        Check.type(y, " ".repeat(799) + "x");
        Check.answer(() -> y.load());
        CHECK.same("position 799", y.errorPosition(), 799);
        Check.type(y, " ".repeat(795) + "panel");
        Check.answer(() -> y.load());
        CHECK.same("position 800", y.errorPosition(), 800);
        CHECK.fails("another call that fails", IllegalStateException.class, () -> y.undo());
        CHECK.same("of load alone", y.errorPosition(), 800);
        y.load();
        CHECK.same("no error", y.errorPosition(), -1);
    }

    // ---- THE TEXT

    private static void bufferOf800() {
        CHECK.sentence("THE TEXT: a text buffer of at most 800 bytes");
        String last = "proposal 0 2 0 1;";
        String text = "panel 7;" + " ".repeat(800 - 8 - last.length()) + last;
        GrantAllocation x = Check.loaded(text);
        CHECK.same("a statement that ends with byte 799", x.count(2), 1);
        CHECK.bad(text.substring(0, 799) + "^", 1);
        CHECK.bad(text.substring(0, 799) + " ^", 1);
        CHECK.bad(text.substring(0, 799) + "^,", 1);
        CHECK.good(" ".repeat(800));
        CHECK.good("\n".repeat(800));
        CHECK.good("line 1;".repeat(114) + "  ");
        CHECK.bad("line 1;".repeat(114) + "^;;", 1);
        // As many tokens as there can be.
        CHECK.good("panel 1;reviewer 0 1 2 topics" + " 7".repeat(385) + ";");
        CHECK.bad("panel 1;reviewer 0 1 2 topics" + " 7".repeat(385) + "^", 1);
        CHECK.bad("^" + "a".repeat(800), 1);
        CHECK.bad("^" + "1".repeat(800), 1);
        CHECK.bad("^" + ";".repeat(800), 1);
    }

    private static void longestTokens() {
        CHECK.sentence("THE TEXT: Tokens are as long as possible: words, numbers of 1 to 6 digits, and the symbol");
        CHECK.bad("^panelpanel 5;", 1);
        CHECK.bad("^panelline 5;", 1);
        CHECK.bad("panel 5;^panelx5;", 1);
        CHECK.good("panel5;line5;pool5;limit5;reviews2;");
        CHECK.good(BASE + "reviewer0 1 2topics3;proposal0 2 3 30least30;conflict0 0;");
        CHECK.good("panel 000000;panel 000001;panel 100000;");
        CHECK.bad("panel ^0000000;", 1);
        CHECK.bad("panel ^0000001;", 1);
        CHECK.bad("panel ^1000000;", 1);
        CHECK.bad("panel ^" + "9".repeat(40) + ";", 1);
        CHECK.bad("panel ^4294967297;", 1);
        CHECK.bad("panel ^1234567a;", 1);
        // 12 3 is two numbers, not one.
        CHECK.bad("panel 12 ^3;", 1);
        CHECK.bad("panel 12\n^3;", 1);
        CHECK.same("leading zeros", Check.loaded("panel 000012;").left(0, 0), 12);
        CHECK.same("six digits", Check.loaded("panel 100000;").left(0, 0), 100000);
        CHECK.same("one digit", Check.loaded("panel 9;").left(0, 0), 9);
    }

    private static boolean isLetter(int b) {
        return b >= 'a' && b <= 'z';
    }

    private static boolean isDigit(int b) {
        return b >= '0' && b <= '9';
    }

    private static void everyByte() {
        CHECK.sentence("THE TEXT: letters a to z, digits, \";\", and blanks (bytes 10 and 32)");
        for (int b = 0; b < 256; b++) {
            char sign = (char) b;
            boolean isBlank = b == 10 || b == 32;
            if (isBlank) {
                CHECK.good("" + sign);
                CHECK.good("panel" + sign + "5;");
                CHECK.good("panel 5" + sign + ";");
                CHECK.good("panel 5;" + sign);
                continue;
            }
            CHECK.bad("" + sign, 1, 0);
            CHECK.bad("panel 5;" + sign, 1, 8);
            if (isDigit(b)) {
                CHECK.good("panel" + sign + "5;");
                CHECK.good("panel 5" + sign + ";");
            } else {
                CHECK.bad("panel" + sign + "5;", 1, isLetter(b) ? 0 : 5);
                CHECK.bad("panel 5" + sign + ";", 1, b == ';' ? 8 : 7);
            }
        }
    }

    private static void blanks() {
        CHECK.sentence("THE TEXT: Blanks may stand before, between and behind tokens");
        CHECK.good("\n \n panel \n 5 \n ; \n ");
        CHECK.good("panel5;panel5;");
        CHECK.good(" \npanel\n1;reviewer\n0\n0\n1\ntopics\n0\n1\n;\nproposal\n0\n1\n2\n3\nleast\n1\n;\nconflict\n0\n0\n;\n");
        CHECK.bad("^pan el 5;", 1);
        CHECK.bad("panel 1 ^0;", 1);
    }

    private static void text() {
        CHECK.sentence("THE TEXT: text = { statement \";\" }");
        CHECK.good("");
        CHECK.good(" ");
        CHECK.good("line 1;");
        CHECK.good("line 1;line 2;");
        CHECK.bad("^;", 1);
        CHECK.bad("line 1;^;", 1);
        CHECK.bad("line 1^", 1);
        CHECK.bad("line 1;line 2^", 1);
        CHECK.bad("line 1 ^line 2;", 1);
        CHECK.bad("^5;", 1);
    }

    private static void statements() {
        CHECK.sentence("THE TEXT: statement: each token but the last of each form missing, and one too many");
        String[] forms = {"panel 5", "reviewer 0 1 2 topics 3", "reviewer 0 1 2 topics 3 4", "proposal 0 1 2 30",
            "proposal 0 1 2 30 least 4", "conflict 0 0", "reviews 2", "line 2", "pool 2", "limit 2"};
        for (String form : forms) {
            CHECK.good(BASE + form + ";");
            String[] tokens = form.split(" ");
            StringBuilder before = new StringBuilder(BASE);
            for (int i = 0; i < tokens.length; i++) {
                boolean mayEnd = i == 5 && tokens[0].equals("reviewer") && tokens.length == 7
                        || i == 5 && tokens[0].equals("proposal") || i == 6 && tokens[0].equals("reviewer");
                if (i > 0 && !mayEnd) {
                    CHECK.bad(before + "^;", 1);
                }
                if (i > 0) {
                    CHECK.bad(before + "^", 1);
                    CHECK.bad(before + "^,", 1);
                    CHECK.bad(before + " ^panel", 1);
                    CHECK.bad(before + " ^1234567", 1);
                }
                if (i > 0 && !mayEnd) {
                    // A number in a word's place, a word in a number's place.
                    CHECK.bad(before + (Character.isDigit(tokens[i].charAt(0)) ? " ^topics " : " ^0 ") + "0;", 1);
                }
                before.append(i > 0 ? " " : "").append(tokens[i]);
            }
            CHECK.bad(before + " ^topics 5;", 1);
            if (!tokens[0].equals("reviewer")) {
                CHECK.bad(before + " ^5;", 1);
            }
            if (!tokens[0].equals("proposal") || tokens.length > 5) {
                CHECK.bad(before + " ^least 5;", 1);
            }
        }
        CHECK.bad(BASE + "reviewer 0 1 2 ^least 3;", 1);
        CHECK.bad(BASE + "proposal 0 1 2 30 ^topics 3;", 1);
    }

    /** Both ends of a range, and the numbers beside it; @ stands for the number. */
    private static void range(String words, String form, int low, int high) {
        CHECK.sentence("THE TEXT: " + words);
        int at = form.indexOf('@');
        CHECK.good(form.replace("@", "" + low));
        CHECK.good(form.replace("@", "" + high));
        CHECK.bad(form.replace("@", "" + (high + 1)), 2, at);
        CHECK.bad(form.replace("@", "999999"), 2, at);
        if (low > 0) {
            CHECK.bad(form.replace("@", "" + (low - 1)), 2, at);
            CHECK.bad(form.replace("@", "000000"), 2, at);
        }
        CHECK.bad(form.replace("@", "-1"), 1, at);
        CHECK.bad(form.replace("@", "0000001"), 1, at);
        CHECK.bad(form.replace("@", "1000000"), 1, at);
        CHECK.bad(form.substring(0, at), 1, at);
    }

    private static void ranges() {
        range("panel adds a panel with its budget, 0 to 100000", "panel @;", 0, 100000);
        range("a reviewer with a panel", "panel 1;panel 1;reviewer @ 1 2 topics 3;", 0, 1);
        range("a reviewer with a panel, of four", "panel 1;panel 1;panel 1;panel 1;reviewer @ 1 2 topics 3;", 0, 3);
        range("a reviewer with an institution, 0 to 9", BASE + "reviewer 0 @ 2 topics 3;", 0, 9);
        range("a reviewer with a capacity, 1 to 10", BASE + "reviewer 0 1 @ topics 3;", 1, 10);
        range("topics, 0 to 7 each: the first", BASE + "reviewer 0 1 2 topics @;", 0, 7);
        range("topics, 0 to 7 each: a later one", BASE + "reviewer 0 1 2 topics 3 0 7 @;", 0, 7);
        range("topics, 0 to 7 each: one before the last", BASE + "reviewer 0 1 2 topics 3 @ 7;", 0, 7);
        range("a proposal with a panel", "panel 1;panel 1;panel 1;proposal @ 1 2 3;", 0, 2);
        range("a proposal with an institution, 0 to 9", BASE + "proposal 0 @ 2 3;", 0, 9);
        range("a proposal with a topic, 0 to 7", BASE + "proposal 0 1 @ 3;", 0, 7);
        range("the requested amount, 1 to 9999", BASE + "proposal 0 1 2 @;", 1, 9999);
        range("the least amount, 1 to the requested amount", BASE + "proposal 0 1 2 30 least @;", 1, 30);
        range("the least amount of 9999", BASE + "proposal 0 1 2 9999 least @;", 1, 9999);
        range("the least amount of 1", BASE + "proposal 0 1 2 1 least @;", 1, 1);
        range("conflict: a reviewer", BASE + BASE.substring(8) + "conflict @ 0;", 0, 1);
        range("conflict: a proposal", BASE + BASE.substring(8) + "conflict 0 @;", 0, 1);
        range("conflict: a reviewer of twelve", FULL + "conflict @ 15;", 0, 11);
        range("conflict: a proposal of sixteen", FULL + "conflict 11 @;", 0, 15);
        range("reviews sets the number of reviews per proposal, 1 to 4", "reviews @;", 1, 4);
        range("line sets the funding line, 0 to 100000", "line @;", 0, 100000);
        range("pool sets the budget of the common pool, 0 to 100000", "pool @;", 0, 100000);
        range("limit sets the appeal limit, 0 to 99", "limit @;", 0, 99);
    }

    private static void valuesAtTheEdges() {
        CHECK.sentence("THE TEXT: the numbers at the ends of their ranges are taken as they are");
        GrantAllocation x = Check.loaded("panel 0;panel 100000;pool 100000;line 100000;reviews 1;"
                + "reviewer 1 0 10 topics 0;reviewer 1 9 1 topics 7;proposal 1 9 0 9999 least 1;proposal 1 0 7 1;");
        CHECK.same("budget 0", x.left(0, 0), 0);
        CHECK.same("budget 100000", x.left(0, 1), 100000);
        CHECK.same("pool 100000", x.poolLeft(0), 200000);
        CHECK.same("institution 9", x.isConflict(1, 0), true);
        CHECK.same("institution 0", x.isConflict(0, 1), true);
        CHECK.same("other institutions", x.isConflict(0, 0) || x.isConflict(1, 1), false);
        CHECK.same("topic 0", x.match(0, 0), 2);
        CHECK.same("topic 7", x.match(1, 1), 2);
        Check.score(x, 0, 0, 50);
        Check.score(x, 1, 1, 50);
        CHECK.same("line 100000", x.setLine(0), 100000);
        CHECK.same("requested 9999", x.amount(0, 0), 9999);
        CHECK.same("requested 1", x.amount(0, 1), 1);
        CHECK.same("line 0", Check.loaded("line 0;").setLine(1), 0);
        CHECK.same("pool 0", Check.loaded("pool 0;").poolLeft(0), 0);
    }

    private static void repeatedTopic() {
        CHECK.sentence("THE TEXT: a topic may be repeated");
        GrantAllocation x = Check.loaded("panel 1;reviewer 0 1 2 topics 3 3;reviewer 0 1 2 topics 7 0 7 7 0;"
                + "proposal 0 2 3 1;proposal 0 2 4 1;proposal 0 2 5 1;proposal 0 2 7 1;proposal 0 2 0 1;");
        CHECK.same("the topic itself", x.match(0, 0), 2);
        CHECK.same("beside it", x.match(0, 1), 1);
        CHECK.same("two beside it", x.match(0, 2), 0);
        CHECK.same("7 and 0", x.match(1, 3) * 10 + x.match(1, 4), 22);
        CHECK.same("neither 7 nor 0", x.match(1, 0), 0);
    }

    private static void leastNotGiven() {
        CHECK.sentence("THE TEXT: the least amount is the requested amount if it is not given");
        GrantAllocation x = Check.loaded("panel 99;reviewer 0 1 2 topics 3;proposal 0 2 3 100;");
        Check.score(x, 0, 0, 50);
        CHECK.same("nothing for one less than the request", x.amount(2, 0), 0);
        GrantAllocation y = Check.loaded("panel 99;reviewer 0 1 2 topics 3;proposal 0 2 3 100 least 99;");
        Check.score(y, 0, 0, 50);
        CHECK.same("what is left for the least amount", y.amount(2, 0), 99);
        GrantAllocation z = Check.loaded("panel 99;reviewer 0 1 2 topics 3;proposal 0 2 3 100 least 100;");
        Check.score(z, 0, 0, 50);
        CHECK.same("the requested amount as the least amount", z.amount(2, 0), 0);
        // A least amount of the proposal before does not stay.
        GrantAllocation two = Check.loaded("panel 9;reviewer 0 1 2 topics 3;proposal 0 2 3 100 least 1;proposal 0 2 3 100;");
        Check.score(two, 0, 1, 50);
        CHECK.same("of this proposal alone", two.amount(2, 1), 0);
    }

    private static void conflictAgain() {
        CHECK.sentence("THE TEXT: conflict declares a conflict between a reviewer and a proposal (again, too)");
        GrantAllocation x = Check.loaded(BASE + "conflict 0 0;conflict 0 0;conflict 0 0;");
        CHECK.same("one conflict", x.count(5), 1);
        CHECK.same("conflict", x.isConflict(0, 0), true);
        CHECK.same("declared before", x.declare(0, 0), false);
        GrantAllocation y = Check.loaded("panel 1;panel 1;reviewer 0 1 2 topics 3;proposal 1 1 3 30;conflict 0 0;");
        CHECK.same("of the same institution, in another panel", y.count(5), 1);
        GrantAllocation z = Check.loaded(FULL + "conflict 11 15;conflict 0 15;conflict 11 0;");
        CHECK.same("the last ones", z.isConflict(11, 15) && z.isConflict(0, 15) && z.isConflict(11, 0), true);
        CHECK.same("no other one", z.isConflict(0, 0) || z.isConflict(11, 14) || z.isConflict(10, 15), false);
    }

    private static void withoutStatement() {
        CHECK.sentence("THE TEXT: reviews: 2 without such a statement");
        String three = "panel 9;" + "reviewer 0 1 2 topics 3;".repeat(3) + "proposal 0 2 3 30;";
        GrantAllocation x = Check.loaded(three);
        CHECK.same("two reviews", x.assignAll(0), 2);
        CHECK.fails("a third one", IllegalStateException.class, () -> x.assign(2, 0));

        CHECK.sentence("THE TEXT: line: 0 without such a statement");
        CHECK.same("line", x.setLine(3), 0);

        CHECK.sentence("THE TEXT: pool: 0 without such a statement");
        CHECK.same("pool and budget", x.poolLeft(0), 9);

        CHECK.sentence("THE TEXT: limit: 20 without such a statement");
        x.setScore(0, 0, 30);
        x.setScore(1, 0, 50);
        CHECK.same("a distance of 20", x.appeal(0, 0), false);
        x.setScore(1, 0, 51);
        CHECK.same("a distance of 21", x.appeal(0, 0), true);

        CHECK.sentence("THE TEXT: without such a statement, after a text that had one");
        GrantAllocation y = Check.loaded("reviews 4;line 9;pool 9;limit 0;");
        Check.type(y, three);
        y.load();
        CHECK.same("reviews", y.assignAll(0), 2);
        CHECK.same("line", y.setLine(0), 0);
        CHECK.same("pool", y.poolLeft(0), 9);
        y.setScore(0, 0, 30);
        y.setScore(1, 0, 50);
        CHECK.same("limit", y.appeal(0, 0), false);
    }

    private static void lastOneCounts() {
        CHECK.sentence("THE TEXT: Of several such statements the last one counts");
        String two = "panel 0;" + "reviewer 0 1 2 topics 3;".repeat(4) + "proposal 0 2 3 30;";
        GrantAllocation x = Check.loaded("reviews 4;line 7;pool 8;limit 9;" + two + "reviews 3;line 100000;pool 100000;"
                + "limit 0;reviews 1;line 0;pool 0;limit 50;");
        CHECK.same("reviews", x.assignAll(0), 1);
        CHECK.same("line", x.setLine(0), 0);
        CHECK.same("pool", x.poolLeft(0), 0);
        GrantAllocation y = Check.loaded("reviews 1;limit 99;" + two + "limit 30;reviews 2;");
        CHECK.same("reviews behind the proposals", y.assignAll(0), 2);
        y.setScore(0, 0, 30);
        y.setScore(1, 0, 60);
        CHECK.same("limit 30", y.appeal(0, 0), false);
        y.setScore(1, 0, 61);
        CHECK.same("limit 30", y.appeal(0, 0), true);
    }

    private static void earlierStatement() {
        CHECK.sentence("THE TEXT: it must have been added by an earlier statement");
        CHECK.bad("reviewer ^0 1 2 topics 3;panel 1;", 2);
        CHECK.bad("proposal ^0 1 2 3;panel 1;", 2);
        CHECK.bad("panel 1;reviewer ^1 1 2 topics 3;panel 1;", 2);
        CHECK.bad("panel 1;proposal ^1 1 2 3;panel 1;", 2);
        CHECK.bad("panel 1;proposal 0 1 2 3;conflict ^0 0;reviewer 0 1 2 topics 3;", 2);
        CHECK.bad("panel 1;reviewer 0 1 2 topics 3;conflict 0 ^0;proposal 0 1 2 3;", 2);
        CHECK.bad(BASE + "conflict ^1 0;reviewer 0 1 2 topics 3;", 2);
        CHECK.bad(BASE + "conflict 0 ^1;proposal 0 1 2 3;", 2);
        CHECK.good("panel 1;reviewer 0 1 2 topics 3;panel 1;reviewer 1 1 2 topics 3;proposal 1 1 2 3;conflict 1 0;");
        // What an earlier text added does not count.
        GrantAllocation x = Check.loaded(FULL);
        Check.type(x, "panel 1;reviewer 1 1 2 topics 3;");
        CHECK.fails("the panel of an earlier text", IllegalArgumentException.class, () -> x.load());
        CHECK.same("code", x.errorCode(), 2);
        CHECK.same("position", x.errorPosition(), 17);
    }

    private static void positions() {
        CHECK.sentence("THE TEXT: The position of an error is the byte offset of the first byte of a token");
        CHECK.bad("\n \n ^panels 5;", 1);
        CHECK.bad("panel \n \n^100001;", 2);
        CHECK.bad("panel1;panel1;panel1;panel1; \n ^panel1;", 3);
        CHECK.bad("panel  ^12345678 ;", 1);

        CHECK.sentence("THE TEXT: the end has the text length as its position");
        CHECK.bad("panel^", 1);
        CHECK.bad("panel ^", 1);
        CHECK.bad("panel \n \n^", 1);
        CHECK.bad("panel 5   ^", 1);
        CHECK.bad("panel 5;line^", 1);
        CHECK.bad("panel 5" + " ".repeat(793) + "^", 1);
    }

    private static void firstError() {
        CHECK.sentence("THE TEXT: The first error from the left is reported");
        CHECK.bad("panel ^100001;panel x;", 2);
        CHECK.bad("panel ^x;panel 100001;", 1);
        CHECK.bad("panel ^999999 999999 999999", 2);
        CHECK.bad("panel 1;panel 1;panel 1;panel 1;line ^200000;panel 1;", 2);
        CHECK.bad("panel 1;panel 1;panel 1;panel 1;^panel 200000;", 3);
        CHECK.bad("panel 1;panel 1;panel 1;panel 1;^panel 1234567;", 3);
        CHECK.bad("panel 5;reviewer ^9 99 99 topics 99;", 2);
        CHECK.bad("panel 5;reviewer 0 ^99 99 topics 99;", 2);
        CHECK.bad("panel 5;proposal 0 1 2 ^0 least 0;", 2);
        CHECK.bad("panel 5;proposal 0 1 2 3 least ^4 5;", 2);
        CHECK.bad("conflict ^0 x;", 2);
        CHECK.bad("panel 1 ^! panel 200000", 1);
    }

    private static void sameError() {
        CHECK.sentence("THE TEXT: of several at the same position, the one with the lowest code");
        // A run of more than 6 digits is no number out of range.
        CHECK.bad("panel ^1000000;", 1);
        CHECK.bad("reviews ^9999999;", 1);
        CHECK.bad("reviewer ^0000000 1 2 topics 3;", 1);
        // A word that cannot stand there is no fifth panel.
        CHECK.bad("panel 1;".repeat(4) + "line ^panel 1;", 1);
        CHECK.bad(FULL + "line 5 ^reviewer 0;", 1);
        CHECK.bad(FULL + "line ^proposal;", 1);
        // A number where none can stand is not out of range.
        CHECK.bad("panel 1 ^999999;", 1);
    }

    private static void codeOne() {
        CHECK.sentence("THE TEXT: Code 1: a token that cannot stand there");
        CHECK.bad("^topics;", 1);
        CHECK.bad("^least 1;", 1);
        CHECK.bad("^1 panel;", 1);
        CHECK.bad("panel ^;", 1);
        CHECK.bad("panel ^line;", 1);
        CHECK.bad("^pane 1;", 1);
        CHECK.bad("^panels 1;", 1);
        CHECK.bad("^xpanel 1;", 1);

        for (String word : new String[] {"panel 5;", "reviewer 0 1 2 topics 3;", "proposal 0 1 2 3;", "conflict 0 0;",
            "reviews 2;", "line 2;", "pool 2;", "limit 2;"}) {
            CHECK.good(BASE + word);
            for (int i = 0; i < word.indexOf(' '); i++) {
                for (char other : new char[] {'x', 'z'}) {
                    CHECK.bad(BASE + "^" + word.substring(0, i) + other + word.substring(i + 1), 1);
                }
            }
        }
        for (int i = 0; i < 6; i++) {
            StringBuilder topics = new StringBuilder("topics");
            topics.setCharAt(i, 'x');
            CHECK.bad(BASE + "reviewer 0 1 2 ^" + topics + " 3;", 1);
            StringBuilder least = new StringBuilder("least ");
            least.setCharAt(i, 'x');
            CHECK.bad(BASE + "proposal 0 1 2 3 ^" + least + " 3;", 1);
        }

        CHECK.sentence("THE TEXT: Code 1: a run of more than 6 digits");
        CHECK.bad("panel ^0000000;", 1);
        CHECK.bad("^1234567;", 1);
        CHECK.bad("panel ^12345678;", 1);

        CHECK.sentence("THE TEXT: Code 1: a byte that starts no token");
        CHECK.bad("panel ^A;", 1);
        CHECK.bad("panel 5^:", 1);
        CHECK.bad("^/", 1);
        CHECK.bad("panel 5;^\t", 1);
        CHECK.bad("panel 5;^\r\n", 1);
        CHECK.bad("^\u0000", 1);
        CHECK.bad("^\u00e9", 1);

        CHECK.sentence("THE TEXT: Code 1: the end");
        CHECK.bad("panel^", 1);
        CHECK.bad("panel 5^", 1);
        CHECK.bad(BASE + "reviewer 0 1 2 topics^", 1);
        CHECK.bad(BASE + "proposal 0 1 2 3 least^", 1);
    }

    private static void codeTwo() {
        CHECK.sentence("THE TEXT: Code 2: a number is out of range, or names something that has not been added");
        CHECK.bad("limit ^100;", 2);
        CHECK.bad("reviews ^0;", 2);
        CHECK.bad("conflict ^0 0;", 2);
        CHECK.bad("panel 1;panel 1;panel 1;panel 1;reviewer ^4 1 2 topics 3;", 2);
        CHECK.bad(FULL + "conflict ^12 0;", 2);
        CHECK.bad(FULL + "conflict 0 ^16;", 2);
    }

    private static void codeThree() {
        CHECK.sentence("THE TEXT: Code 3: the word of a 5th panel, a 13th reviewer or a 17th proposal");
        CHECK.good(FULL);
        CHECK.bad("panel 1;".repeat(4) + "^panel 1;", 3);
        CHECK.bad("panel 1;".repeat(4) + "^panel", 3);
        CHECK.bad("panel 1;".repeat(4) + "^panel;", 3);
        CHECK.bad("panel 1;" + "reviewer 0 1 2 topics 3;".repeat(12) + "^reviewer 0 1 2 topics 3;", 3);
        CHECK.bad("panel 1;" + "reviewer 0 1 2 topics 3;".repeat(12) + "^reviewer 9", 3);
        CHECK.bad("panel 1;" + "proposal 0 1 2 3;".repeat(16) + "^proposal 0 1 2 3;", 3);
        CHECK.bad("panel 1;" + "proposal 0 1 2 3;".repeat(16) + "^proposal", 3);
        CHECK.bad(FULL + "^panel 1;", 3);
        CHECK.bad(FULL + "^reviewer 1;", 3);
        CHECK.bad(FULL + "^proposal 1;", 3);
        // After a refused text the counting begins anew.
        GrantAllocation x = new GrantAllocation();
        Check.type(x, "panel 1;".repeat(5));
        CHECK.fails("five panels", IllegalArgumentException.class, () -> x.load());
        Check.type(x, "panel 1;".repeat(4));
        x.load();
        CHECK.same("four panels", x.count(0), 4);
    }
}
