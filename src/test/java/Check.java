import java.util.concurrent.Callable;

/** What the tests have in common: comparing answers, expecting exceptions, and filling the text buffer. */
final class Check {
    private int asked;
    private int wrong;
    /** The document's sentence that the answers belong to, and how many answers it has had. */
    private String sentence = "";
    private int askedOfSentence;

    /** Begins the test of a sentence of the document; one without an answer counts as wrong. */
    void sentence(String words) {
        endSentence();
        sentence = words;
        askedOfSentence = 0;
    }

    private void endSentence() {
        if (!sentence.isEmpty() && askedOfSentence == 0) {
            wrong++;
            System.out.println(sentence + ": nothing was asked");
        }
        sentence = "";
    }

    void same(String what, Object got, Object due) {
        asked++;
        askedOfSentence++;
        if (!got.equals(due)) {
            wrong++;
            System.out.println((sentence.isEmpty() ? "" : sentence + " -- ") + what + " answered " + got + ", due is " + due);
        }
    }

    /** Expects an exception of exactly this class: one of the machine's own would be of a class below it. */
    void fails(String what, Class<? extends RuntimeException> due, Callable<Object> call) {
        same(what, answer(call), "throws " + due.getSimpleName());
    }

    /** Expects an answer, whatever it is. */
    void answers(String what, Callable<Object> call) {
        same(what, answer(call).toString().startsWith("throws "), false);
    }

    static Object answer(Callable<Object> call) {
        try {
            return call.call();
        } catch (Exception e) {
            return "throws " + e.getClass().getSimpleName();
        }
    }

    /** Puts a text into the buffer; its characters are the bytes. */
    static void type(GrantAllocation x, String text) {
        for (int at = 0; at < text.length(); at += 20) {
            x.append(word(text, at), word(text, at + 4), word(text, at + 8), word(text, at + 12), word(text, at + 16));
        }
        x.truncate(text.length());
    }

    static int word(String text, int at) {
        int word = 0;
        for (int i = at; i < at + 4; i++) {
            word = word << 8 | (i < text.length() ? text.charAt(i) & 255 : ' ');
        }
        return word;
    }

    static GrantAllocation loaded(String text) {
        GrantAllocation x = new GrantAllocation();
        type(x, text);
        x.load();
        return x;
    }

    /** Assigns a review and sets its score. */
    static void score(GrantAllocation x, int reviewer, int proposal, int score) {
        x.assign(reviewer, proposal);
        x.setScore(reviewer, proposal, score);
    }

    /** A text without an error. */
    void good(String text) {
        GrantAllocation x = new GrantAllocation();
        type(x, text);
        answers("load of " + text, () -> x.load());
        same("errorCode of " + text, x.errorCode(), 0);
        same("errorPosition of " + text, x.errorPosition(), -1);
    }

    /** A text with an error; the mark ^ stands before its position. */
    void bad(String marked, int code) {
        bad(marked.replace("^", ""), code, marked.indexOf('^'));
    }

    void bad(String text, int code, int position) {
        GrantAllocation x = new GrantAllocation();
        type(x, text);
        fails("load of " + text, IllegalArgumentException.class, () -> x.load());
        same("errorCode of " + text, x.errorCode(), code);
        same("errorPosition of " + text, x.errorPosition(), position);
        same("panels of " + text, x.count(0), 0);
    }

    void end() {
        endSentence();
        System.out.println(asked + " answers, " + wrong + " wrong");
        if (wrong != 0 || asked == 0) {
            System.exit(1);
        }
    }
}
