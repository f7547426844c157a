import java.util.concurrent.Callable;

/** What the tests have in common: comparing answers, expecting exceptions, and filling the text buffer. */
final class Check {
    private int asked;
    private int wrong;

    void same(String what, Object got, Object due) {
        asked++;
        if (!got.equals(due)) {
            wrong++;
            System.out.println(what + " answered " + got + ", due is " + due);
        }
    }

    /** Expects an exception of exactly this class: one of the machine's own would be of a class below it. */
    void fails(String what, Class<? extends RuntimeException> due, Callable<Object> call) {
        same(what, answer(call), "throws " + due.getSimpleName());
    }

    static Object answer(Callable<Object> call) {
        try {
            return call.call();
        } catch (Exception e) {
            return "throws " + e.getClass().getSimpleName();
        }
    }

    /** Puts a text into the buffer; its characters are the bytes. */
    static void type(GrantAllocation x, String text) {
        for (int at = 0; at < text.length(); at += 20) {
            x.append(word(text, at), word(text, at + 4), word(text, at + 8), word(text, at + 12), word(text, at + 16));
        }
        x.truncate(text.length());
    }

    static int word(String text, int at) {
        int word = 0;
        for (int i = at; i < at + 4; i++) {
            word = word << 8 | (i < text.length() ? text.charAt(i) & 255 : ' ');
        }
        return word;
    }

    static GrantAllocation loaded(String text) {
        GrantAllocation x = new GrantAllocation();
        type(x, text);
        x.load();
        return x;
    }

    void end() {
        System.out.println(asked + " answers, " + wrong + " wrong");
        if (wrong != 0 || asked == 0) {
            System.exit(1);
        }
    }
}
