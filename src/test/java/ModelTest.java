import java.util.Random;
import java.util.concurrent.Callable;

/** Runs of calls with chosen and with wild arguments: the class has to answer as the model does. */
public final class ModelTest {
    private static final int RUNS = 400;
    private static final int CALLS = 512;

    private final Check check;
    private final Random random;
    private final GrantAllocation x = new GrantAllocation();
    private final Model m = new Model();
    private final String run;
    private int calls;

    private ModelTest(Check check, long seed) {
        this.check = check;
        this.random = new Random(seed);
        this.run = "run " + seed + ", call ";
    }

    public static void main(String[] args) {
        Check check = new Check();
        for (int seed = 0; seed < RUNS; seed++) {
            new ModelTest(check, seed).go();
        }
        check.end();
    }

    private void go() {
        int kind = random.nextInt(5);
        while (calls < CALLS) {
            if (calls == 0 || random.nextInt(200) == 0) {
                load(kind);
            }
            if (random.nextInt(3) == 0) {
                busyCall();
            } else {
                anyCall();
            }
        }
    }

    private void same(String name, Callable<Object> of, Callable<Object> due) {
        calls++;
        if (calls <= CALLS) {
            check.same(run + calls + ": " + name, Check.answer(of), Check.answer(due));
        }
    }

    // ---- texts

    private int below(int n) {
        return random.nextInt(n);
    }

    private void load(int kind) {
        String text = text(kind);
        if (below(4) == 0) {
            text = spoilt(text);
        }
        if (text.length() > 800) {
            text = text.substring(0, 800);
        }
        for (int i = 0; i < text.length(); i += 20) {
            int a = Check.word(text, i);
            int b = Check.word(text, i + 4);
            int c = Check.word(text, i + 8);
            int d = Check.word(text, i + 12);
            int e = Check.word(text, i + 16);
            same("append", () -> x.append(a, b, c, d, e), () -> m.append(a, b, c, d, e));
        }
        int length = text.length();
        same("truncate " + length, () -> x.truncate(length), () -> m.truncate(length));
        same("load " + text, () -> x.load(), () -> m.load());
        same("errorCode " + text, () -> x.errorCode(), () -> m.errorCode());
        same("errorPosition " + text, () -> x.errorPosition(), () -> m.errorPosition());
    }

    /** Kind 0: one large panel; 1: a large panel with many reviews; others: several panels. */
    private String text(int kind) {
        int panels = kind <= 1 ? 1 : 1 + below(4);
        int reviewers = kind <= 1 ? 8 + below(5) : 1 + below(12);
        int proposals = kind <= 1 ? 10 + below(7) : 1 + below(16);
        int most = new int[] {20, 300, 9999}[below(3)];
        int institutions = 2 + below(8);
        StringBuilder t = new StringBuilder();
        if (kind == 1 || below(3) > 0) {
            t.append("reviews ").append(kind == 1 ? 2 + below(3) : 1 + below(4)).append(';');
        }
        for (int i = 0; i < panels; i++) {
            t.append("panel ").append(below(Math.min(100000, most * 6))).append(";");
        }
        for (int i = 0; i < reviewers; i++) {
            t.append("reviewer ").append(below(panels)).append(' ').append(below(institutions)).append(' ');
            t.append(1 + below(below(2) == 0 ? 10 : 4)).append("topics");
            for (int k = below(3); k >= 0; k--) {
                t.append(below(8)).append(k > 0 ? " " : ";");
            }
        }
        for (int i = 0; i < proposals; i++) {
            t.append("proposal ").append(below(panels)).append(' ').append(below(10)).append(' ').append(below(8));
            int requested = 1 + below(most);
            t.append(' ').append(requested);
            if (below(3) == 0) {
                t.append("least").append(1 + below(requested));
            }
            t.append(';');
        }
        for (int k = below(4); k > 0; k--) {
            t.append("conflict ").append(below(reviewers)).append(' ').append(below(proposals)).append(';');
        }
        t.append(below(2) == 0 ? "" : "line " + below(below(2) == 0 ? 60000 : 100001) + ";");
        t.append(below(2) == 0 ? "" : "pool " + below(most * 3) + ";");
        t.append(below(2) == 0 ? "" : "limit " + below(below(2) == 0 ? 100 : 10) + ";\n");
        return t.toString();
    }

    private String spoilt(String text) {
        StringBuilder t = new StringBuilder(text);
        for (int k = 1 + below(2); k > 0; k--) {
            int at = below(t.length());
            String signs = " \n;0199xline-\u0000\t\u00ff";
            switch (below(4)) {
                case 0 -> t.deleteCharAt(at);
                case 1 -> t.insert(at, signs.charAt(below(signs.length())));
                case 2 -> t.setCharAt(at, signs.charAt(below(signs.length())));
                default -> t.insert(at, new String[] {"panel 1;", "least", "topics", "0000000", "12"}[below(5)]);
            }
            if (t.length() == 0) {
                return "";
            }
        }
        return t.toString();
    }

    // ---- calls

    /** A number that is nearly always below the size, now and then just outside, seldom far outside. */
    private int near(int size) {
        int wild = below(60);
        if (wild == 0) {
            return new int[] {-1, size, size + 1, Integer.MAX_VALUE, Integer.MIN_VALUE, 16, 12, 4}[below(8)];
        }
        return size == 0 ? 0 : below(size);
    }

    /** A change that is likely to succeed, so that there is something to ask about. */
    private void busyCall() {
        int reviewers = m.count(1);
        int proposals = m.count(2);
        if (proposals == 0 || reviewers == 0) {
            return;
        }
        if (below(12) == 0) {
            int panel = below(m.count(0));
            same("assignAll " + panel, () -> x.assignAll(panel), () -> m.assignAll(panel));
            return;
        }
        int p = below(proposals);
        Object held = Check.answer(() -> m.reviewerOf(p, below(4)));
        if (held instanceof Integer r) {
            int score = below(8) == 0 ? -1 : below(3) == 0 ? 70 + 5 * below(5) : 1 + below(100);
            same("setScore " + r + " " + p + " " + score, () -> x.setScore(r, p, score), () -> m.setScore(r, p, score));
        } else {
            int r = below(reviewers);
            same("assign " + r + " " + p, () -> x.assign(r, p), () -> m.assign(r, p));
        }
    }

    private void anyCall() {
        int panel = near(m.count(0));
        int r = near(m.count(1));
        int p = near(m.count(2));
        int q = near(m.count(2));
        int k = near(5);
        int mode = near(3);
        int what = below(33);
        String at = " panel " + panel + " reviewer " + r + " proposals " + p + " " + q + " k " + k + " mode " + mode;
        if (what < 11) {
            changeCall(what, panel, r, p, at);
        } else if (what < 22) {
            reviewCall(what, panel, r, p, q, k, at);
        } else {
            fundingCall(what, panel, p, q, mode, at);
        }
    }

    private void changeCall(int what, int panel, int r, int p, String at) {
        int score = near(101);
        int line = near(below(3) == 0 ? 100001 : 60000);
        switch (what) {
            case 0 -> same("declare" + at, () -> x.declare(r, p), () -> m.declare(r, p));
            case 1 -> same("assign" + at, () -> x.assign(r, p), () -> m.assign(r, p));
            case 2 -> same("unassign" + at, () -> x.unassign(r, p), () -> m.unassign(r, p));
            case 3 -> same("assignAll" + at, () -> x.assignAll(panel), () -> m.assignAll(panel));
            case 4 -> same("setScore " + score + at, () -> x.setScore(r, p, score), () -> m.setScore(r, p, score));
            case 5, 6 -> appealCall(r, p, at);
            case 7 -> same("setLine " + line, () -> x.setLine(line), () -> m.setLine(line));
            case 8 -> same("undo", () -> x.undo(), () -> m.undo());
            case 9 -> {
                for (int n = below(12); n >= 0 && below(3) == 0; n--) {
                    same("undo", () -> x.undo(), () -> m.undo());
                }
            }
            default -> same("isConflict" + at, () -> x.isConflict(r, p), () -> m.isConflict(r, p));
        }
    }

    private void appealCall(int r, int p, String at) {
        Object held = Check.answer(() -> m.reviewerOf(p, below(3)));
        int s = held instanceof Integer h && below(4) > 0 ? h : r;
        same("appeal by " + s + at, () -> x.appeal(s, p), () -> m.appeal(s, p));
    }

    private void reviewCall(int what, int panel, int r, int p, int q, int k, String at) {
        switch (what) {
            case 11 -> same("count " + (k + 1), () -> x.count(k + 1), () -> m.count(k + 1));
            case 12 -> same("match" + at, () -> x.match(r, p), () -> m.match(r, p));
            case 13 -> same("reviewerOf" + at, () -> x.reviewerOf(p, k), () -> m.reviewerOf(p, k));
            case 14 -> same("loadOf" + at, () -> x.loadOf(r), () -> m.loadOf(r));
            case 15 -> same("matchSum" + at, () -> x.matchSum(panel), () -> m.matchSum(panel));
            case 16 -> same("mostReviews" + at, () -> x.mostReviews(panel), () -> m.mostReviews(panel));
            case 17 -> same("bestMatchSum" + at, () -> x.bestMatchSum(panel), () -> m.bestMatchSum(panel));
            case 18 -> same("adjusted" + at, () -> x.adjusted(r, p), () -> m.adjusted(r, p));
            case 19 -> same("normalized" + at, () -> x.normalized(p), () -> m.normalized(p));
            case 20 -> same("leniency" + at, () -> x.leniency(r), () -> m.leniency(r));
            default -> same("disagreement" + at, () -> x.disagreement(q), () -> m.disagreement(q));
        }
    }

    private void fundingCall(int what, int panel, int p, int q, int mode, String at) {
        int number = near(below(2) == 0 ? 6 : 17);
        int rank = near(6);
        int part = below(4) == 0 ? -1 : panel;
        switch (what) {
            case 22 -> same("rank" + at, () -> x.rank(p), () -> m.rank(p));
            case 23 -> same("ranked " + part + " " + rank, () -> x.ranked(part, rank), () -> m.ranked(part, rank));
            case 24, 25 -> same("tieRound" + at, () -> x.tieRound(p, q), () -> m.tieRound(p, q));
            case 26 -> same("amount" + at, () -> x.amount(mode, p), () -> m.amount(mode, p));
            case 27 -> same("left" + at, () -> x.left(mode, panel), () -> m.left(mode, panel));
            case 28 -> same("poolLeft" + at, () -> x.poolLeft(mode), () -> m.poolLeft(mode));
            case 29 -> same("funded" + at, () -> x.funded(mode), () -> m.funded(mode));
            case 30 -> same("bestSum" + at, () -> x.bestSum(panel), () -> m.bestSum(panel));
            default -> same("lineFor " + number + at, () -> x.lineFor(mode, number), () -> m.lineFor(mode, number));
        }
    }
}
