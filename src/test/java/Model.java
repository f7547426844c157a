import java.util.ArrayDeque;
import java.util.ArrayList;
import java.util.Arrays;
import java.util.Comparator;
import java.util.Deque;
import java.util.HashMap;
import java.util.List;
import java.util.Map;
import java.util.NoSuchElementException;
import java.util.TreeMap;
import java.util.TreeSet;
import java.util.regex.Matcher;
import java.util.regex.Pattern;
import java.util.stream.Collectors;
import java.util.stream.IntStream;

/**
 * The document once more, in the slowest and plainest way, with the whole library: what the class answers is
 * compared with what this answers. It shares no method of computing with the class.
 */
final class Model {
    private static final Pattern TOKEN = Pattern.compile("[a-z]+|[0-9]+|;|[^ \\n]", Pattern.DOTALL);

    private record Reviewer(int panel, int institution, int capacity, TreeSet<Integer> topics) {
    }

    private record Proposal(int panel, int institution, int topic, int requested, int least) {
    }

    private record Pair(int reviewer, int proposal) implements Comparable<Pair> {
        public int compareTo(Pair other) {
            return reviewer != other.reviewer ? reviewer - other.reviewer : proposal - other.proposal;
        }
    }

    /** All that changes can change. A review without a score has the score -1. */
    private static final class Changing {
        TreeMap<Pair, Integer> reviews = new TreeMap<>();
        TreeSet<Pair> declared = new TreeSet<>();
        TreeSet<Integer> granted = new TreeSet<>();
        int line;

        Changing copy() {
            Changing c = new Changing();
            c.reviews.putAll(reviews);
            c.declared.addAll(declared);
            c.granted.addAll(granted);
            c.line = line;
            return c;
        }
    }

    private static final class Loading {
        List<Integer> budgets = new ArrayList<>();
        List<Reviewer> reviewers = new ArrayList<>();
        List<Proposal> proposals = new ArrayList<>();
        int reviews = 2;
        int pool;
        int limit = 20;
        Changing start = new Changing();
    }

    private static final class TextError extends Exception {
        private static final long serialVersionUID = 1;
        final int code;
        final int position;

        TextError(int code, int position) {
            this.code = code;
            this.position = position;
        }
    }

    private String text = "";
    private int code;
    private int position = -1;
    private Loading now = new Loading();
    private Changing state = new Changing();
    private final Deque<Changing> past = new ArrayDeque<>();

    // ---- the text

    int append(int a, int b, int c, int d, int e) {
        if (text.length() + 20 > 800) {
            throw new IllegalStateException();
        }
        for (int word : new int[] {a, b, c, d, e}) {
            for (int i = 3; i >= 0; i--) {
                text += (char) (word >>> 8 * i & 255);
            }
        }
        return text.length();
    }

    int truncate(int length) {
        if (length < 0 || length > text.length()) {
            throw new IndexOutOfBoundsException();
        }
        text = text.substring(0, length);
        return length;
    }

    private List<String> tokens;
    private List<Integer> places;
    private int at;

    int load() {
        tokens = new ArrayList<>();
        places = new ArrayList<>();
        Matcher m = TOKEN.matcher(text);
        while (m.find()) {
            tokens.add(m.group());
            places.add(m.start());
        }
        tokens.add("");
        places.add(text.length());
        at = 0;
        text = "";
        code = 0;
        position = -1;
        Loading l = new Loading();
        try {
            while (!tokens.get(at).isEmpty()) {
                statement(l);
                word(";");
            }
        } catch (TextError e) {
            code = e.code;
            position = e.position;
            throw new IllegalArgumentException();
        }
        now = l;
        state = l.start;
        past.clear();
        return l.proposals.size();
    }

    private TextError error(int number) {
        return new TextError(number, places.get(at));
    }

    private void word(String due) throws TextError {
        if (!tokens.get(at).equals(due)) {
            throw error(1);
        }
        at++;
    }

    private int number(int low, int high) throws TextError {
        if (!tokens.get(at).matches("[0-9]{1,6}")) {
            throw error(1);
        }
        int n = Integer.parseInt(tokens.get(at));
        if (n < low || n > high) {
            throw error(2);
        }
        at++;
        return n;
    }

    private void limited(int present, int most) throws TextError {
        if (present == most) {
            throw error(3);
        }
        at++;
    }

    private void statement(Loading l) throws TextError {
        String verb = tokens.get(at);
        if (verb.equals("panel")) {
            limited(l.budgets.size(), 4);
            l.budgets.add(number(0, 100000));
        } else if (verb.equals("reviewer")) {
            limited(l.reviewers.size(), 12);
            int panel = number(0, l.budgets.size() - 1);
            int institution = number(0, 9);
            int capacity = number(1, 10);
            word("topics");
            TreeSet<Integer> topics = new TreeSet<>();
            do {
                topics.add(number(0, 7));
            } while (!tokens.get(at).equals(";"));
            l.reviewers.add(new Reviewer(panel, institution, capacity, topics));
        } else if (verb.equals("proposal")) {
            limited(l.proposals.size(), 16);
            int panel = number(0, l.budgets.size() - 1);
            int institution = number(0, 9);
            int topic = number(0, 7);
            int requested = number(1, 9999);
            int least = requested;
            if (tokens.get(at).equals("least")) {
                at++;
                least = number(1, requested);
            }
            l.proposals.add(new Proposal(panel, institution, topic, requested, least));
        } else {
            setting(l, verb);
        }
    }

    private void setting(Loading l, String verb) throws TextError {
        if (!List.of("conflict", "reviews", "line", "pool", "limit").contains(verb)) {
            throw error(1);
        }
        at++;
        switch (verb) {
            case "conflict" -> {
                int r = number(0, l.reviewers.size() - 1);
                l.start.declared.add(new Pair(r, number(0, l.proposals.size() - 1)));
            }
            case "reviews" -> l.reviews = number(1, 4);
            case "line" -> l.start.line = number(0, 100000);
            case "pool" -> l.pool = number(0, 100000);
            default -> l.limit = number(0, 99);
        }
    }

    int errorCode() {
        return code;
    }

    int errorPosition() {
        return position;
    }

    // ---- panels, reviewers and proposals

    int count(int what) {
        return switch (what) {
            case 0 -> now.budgets.size();
            case 1 -> now.reviewers.size();
            case 2 -> now.proposals.size();
            case 3 -> state.reviews.size();
            case 4 -> (int) state.reviews.values().stream().filter(s -> s > 0).count();
            case 5 -> state.declared.size();
            case 6 -> state.granted.size();
            default -> throw new IllegalArgumentException();
        };
    }

    private Reviewer reviewer(int r) {
        return now.reviewers.get(index(r, now.reviewers.size()));
    }

    private Proposal proposal(int p) {
        return now.proposals.get(index(p, now.proposals.size()));
    }

    private static int index(int i, int size) {
        if (i < 0 || i >= size) {
            throw new IndexOutOfBoundsException();
        }
        return i;
    }

    boolean isConflict(int r, int p) {
        return reviewer(r).institution == proposal(p).institution || state.declared.contains(new Pair(r, p));
    }

    int match(int r, int p) {
        int topic = proposal(p).topic;
        int distance = reviewer(r).topics.stream().mapToInt(t -> Math.abs(t - topic)).min().getAsInt();
        return Math.max(0, 2 - distance);
    }

    private boolean fits(int r, int p) {
        return reviewer(r).panel == proposal(p).panel && !isConflict(r, p);
    }

    private void change() {
        past.push(state.copy());
        if (past.size() > 10) {
            past.removeLast();
        }
    }

    boolean declare(int r, int p) {
        isConflict(r, p);
        if (state.reviews.containsKey(new Pair(r, p))) {
            throw new IllegalStateException();
        }
        change();
        return state.declared.add(new Pair(r, p));
    }

    // ---- reviews

    private int reviewsOf(int p) {
        return (int) state.reviews.keySet().stream().filter(k -> k.proposal == p).count();
    }

    int loadOf(int r) {
        reviewer(r);
        return (int) state.reviews.keySet().stream().filter(k -> k.reviewer == r).count();
    }

    int assign(int r, int p) {
        if (!fits(r, p)) {
            throw new IllegalArgumentException();
        }
        if (state.reviews.containsKey(new Pair(r, p)) || loadOf(r) == reviewer(r).capacity
                || reviewsOf(p) == now.reviews) {
            throw new IllegalStateException();
        }
        change();
        state.reviews.put(new Pair(r, p), -1);
        return reviewsOf(p);
    }

    private int review(int r, int p) {
        isConflict(r, p);
        Integer score = state.reviews.get(new Pair(r, p));
        if (score == null) {
            throw new NoSuchElementException();
        }
        return score;
    }

    int unassign(int r, int p) {
        int score = review(r, p);
        change();
        state.reviews.remove(new Pair(r, p));
        return score;
    }

    int assignAll(int panel) {
        index(panel, now.budgets.size());
        change();
        int before = state.reviews.size();
        for (int round = 1; round <= now.reviews; round++) {
            for (int p = 0; p < now.proposals.size(); p++) {
                int q = p;
                if (proposal(p).panel == panel && reviewsOf(p) < round) {
                    IntStream.range(0, now.reviewers.size()).boxed()
                            .filter(r -> fits(r, q) && !state.reviews.containsKey(new Pair(r, q)))
                            .filter(r -> loadOf(r) < reviewer(r).capacity)
                            .min(Comparator.comparing((Integer r) -> -match(r, q)).thenComparing(this::loadOf)
                                    .thenComparing(r -> r))
                            .ifPresent(r -> state.reviews.put(new Pair(r, q), -1));
                }
            }
        }
        return state.reviews.size() - before;
    }

    int reviewerOf(int p, int k) {
        proposal(p);
        List<Integer> all = state.reviews.keySet().stream().filter(x -> x.proposal == p).map(Pair::reviewer).sorted()
                .collect(Collectors.toList());
        return all.get(index(k, all.size()));
    }

    int matchSum(int panel) {
        index(panel, now.budgets.size());
        return state.reviews.keySet().stream().filter(x -> reviewer(x.reviewer).panel == panel)
                .mapToInt(x -> match(x.reviewer, x.proposal)).sum();
    }

    int mostReviews(int panel) {
        return best(panel) / 1000;
    }

    int bestMatchSum(int panel) {
        return best(panel) % 1000;
    }

    /** 1000 for each review plus the matches: few reviewers by trying all ways, many by cancelling cycles. */
    private int best(int panel) {
        index(panel, now.budgets.size());
        int[] rs = IntStream.range(0, now.reviewers.size()).filter(r -> reviewer(r).panel == panel).toArray();
        int[] ps = IntStream.range(0, now.proposals.size()).filter(p -> proposal(p).panel == panel).toArray();
        if (rs.length > 4) {
            return bestByCycles(rs, ps);
        }
        long room = 0;
        for (int i = 0; i < rs.length; i++) {
            room |= (long) reviewer(rs[i]).capacity << 4 * i;
        }
        return bestByTrying(rs, ps, 0, room, new HashMap<>());
    }

    private int bestByTrying(int[] rs, int[] ps, int k, long room, Map<Long, Integer> known) {
        if (k == ps.length) {
            return 0;
        }
        long key = room << 5 | k;
        if (known.containsKey(key)) {
            return known.get(key);
        }
        int best = 0;
        for (int set = 0; set < 1 << rs.length; set++) {
            long rest = room;
            int gain = 0;
            boolean possible = Integer.bitCount(set) <= now.reviews;
            for (int i = 0; i < rs.length && possible; i++) {
                if ((set >> i & 1) != 0) {
                    possible = fits(rs[i], ps[k]) && (room >> 4 * i & 15) > 0;
                    rest -= 1L << 4 * i;
                    gain += 1000 + match(rs[i], ps[k]);
                }
            }
            if (possible) {
                best = Math.max(best, gain + bestByTrying(rs, ps, k + 1, rest, known));
            }
        }
        known.put(key, best);
        return best;
    }

    /** Starts with nothing and cancels cycles of positive gain in a network with one node for outside. */
    private int bestByCycles(int[] rs, int[] ps) {
        int n = rs.length + ps.length + 1;
        int[][] room = new int[n][n];
        int[][] gain = new int[n][n];
        for (int i = 0; i < rs.length; i++) {
            room[i + 1][0] = reviewer(rs[i]).capacity;
            for (int j = 0; j < ps.length; j++) {
                int q = rs.length + 1 + j;
                room[0][q] = now.reviews;
                if (fits(rs[i], ps[j])) {
                    room[q][i + 1] = 1;
                    gain[q][i + 1] = 1000 + match(rs[i], ps[j]);
                    gain[i + 1][q] = -gain[q][i + 1];
                }
            }
        }
        int sum = 0;
        int step;
        do {
            step = cancel(n, room, gain);
            sum += step;
        } while (step > 0);
        return sum;
    }

    private static int cancel(int n, int[][] room, int[][] gain) {
        int[] far = new int[n];
        int[] from = new int[n];
        Arrays.fill(from, -1);
        int last = -1;
        for (int round = 0; round <= n; round++) {
            last = -1;
            for (int a = 0; a < n; a++) {
                for (int b = 0; b < n; b++) {
                    if (room[a][b] > 0 && far[a] + gain[a][b] > far[b]) {
                        far[b] = far[a] + gain[a][b];
                        from[b] = a;
                        last = b;
                    }
                }
            }
        }
        if (last < 0) {
            return 0;
        }
        for (int i = 0; i < n; i++) {
            last = from[last];
        }
        int sum = 0;
        int b = last;
        do {
            sum += gain[from[b]][b];
            room[from[b]][b]--;
            room[b][from[b]]++;
            b = from[b];
        } while (b != last);
        return sum;
    }

    // ---- scores

    int setScore(int r, int p, int score) {
        isConflict(r, p);
        if (score < -1 || score == 0 || score > 100) {
            throw new IllegalArgumentException();
        }
        int previous = review(r, p);
        change();
        state.reviews.put(new Pair(r, p), score);
        return previous;
    }

    private List<Integer> scores(java.util.function.Predicate<Pair> which) {
        return state.reviews.entrySet().stream().filter(e -> which.test(e.getKey()) && e.getValue() > 0)
                .map(Map.Entry::getValue).collect(Collectors.toList());
    }

    private static long down(long a, long b) {
        return new java.math.BigDecimal(a).divide(new java.math.BigDecimal(b), 0, java.math.RoundingMode.FLOOR).longValue();
    }

    int adjusted(int r, int p) {
        long x = review(r, p);
        if (x < 0) {
            throw new NoSuchElementException();
        }
        List<Integer> own = scores(k -> k.reviewer == r);
        long n = own.size();
        long s = own.stream().mapToLong(i -> i).sum();
        long d = own.stream().mapToLong(i -> Math.abs(n * i - s)).sum();
        return (int) (d == 0 ? 50000 : 50000 + down(20000 * n * (n * x - s), d));
    }

    int normalized(int p) {
        proposal(p);
        List<Pair> scored = state.reviews.keySet().stream().filter(k -> k.proposal == p && state.reviews.get(k) > 0)
                .collect(Collectors.toList());
        if (scored.isEmpty()) {
            throw new NoSuchElementException();
        }
        return (int) down(scored.stream().mapToLong(k -> adjusted(k.reviewer, k.proposal)).sum(), scored.size());
    }

    double leniency(int r) {
        int panel = reviewer(r).panel;
        List<Integer> own = scores(k -> k.reviewer == r);
        List<Integer> all = scores(k -> reviewer(k.reviewer).panel == panel);
        if (own.isEmpty()) {
            throw new NoSuchElementException();
        }
        double mean = own.stream().mapToInt(i -> i).sum() / (double) own.size();
        return mean - all.stream().mapToInt(i -> i).sum() / (double) all.size();
    }

    double disagreement(int p) {
        proposal(p);
        List<Integer> own = scores(k -> k.proposal == p);
        if (own.size() < 2) {
            throw new NoSuchElementException();
        }
        double sum = 0;
        for (int a : own) {
            for (int b : own) {
                sum += Math.abs(a - b);
            }
        }
        return sum / 2 / (own.size() * (own.size() - 1) / 2.0);
    }

    // ---- ranking

    private boolean isRanked(int p) {
        return !scores(k -> k.proposal == p).isEmpty();
    }

    private List<Comparator<Integer>> rounds() {
        Map<Integer, Integer> normal = new HashMap<>();
        for (int p = 0; p < now.proposals.size(); p++) {
            if (isRanked(p)) {
                normal.put(p, normalized(p));
            }
        }
        List<Comparator<Integer>> all = new ArrayList<>();
        all.add(Comparator.comparing(p -> -normal.get(p)));
        all.add(Comparator.comparing(p -> -scores(k -> k.proposal == p).stream().min(Integer::compare).get()));
        all.add(Comparator.comparing(p -> -scores(k -> k.proposal == p).stream().filter(s -> s >= 80).count()));
        all.add(Comparator.comparing(p -> proposal(p).requested));
        all.add(Comparator.comparing(p -> p));
        return all;
    }

    private List<Integer> order(int panel) {
        Comparator<Integer> by = rounds().stream().reduce((a, b) -> a.thenComparing(b)).get();
        return IntStream.range(0, now.proposals.size()).boxed()
                .filter(p -> isRanked(p) && (panel == -1 || proposal(p).panel == panel)).sorted(by)
                .collect(Collectors.toList());
    }

    int rank(int p) {
        int rank = order(proposal(p).panel).indexOf(p);
        if (rank < 0) {
            throw new NoSuchElementException();
        }
        return rank;
    }

    int ranked(int panel, int rank) {
        if (panel != -1) {
            index(panel, now.budgets.size());
        }
        List<Integer> all = order(panel);
        return all.get(index(rank, all.size()));
    }

    int tieRound(int a, int b) {
        proposal(a);
        proposal(b);
        if (a == b) {
            throw new IllegalArgumentException();
        }
        if (!isRanked(a) || !isRanked(b)) {
            throw new NoSuchElementException();
        }
        List<Comparator<Integer>> all = rounds();
        return IntStream.range(0, 5).filter(i -> all.get(i).compare(a, b) != 0).findFirst().getAsInt();
    }

    // ---- funding

    int setLine(int line) {
        if (line < 0 || line > 100000) {
            throw new IllegalArgumentException();
        }
        change();
        int previous = state.line;
        state.line = line;
        return previous;
    }

    private static final class Money {
        Map<Integer, Integer> amounts = new TreeMap<>();
        List<Integer> left = new ArrayList<>();
        int pool;
    }

    private Money money(int mode, List<Integer> eligible) {
        Money m = new Money();
        for (int panel = 0; panel < now.budgets.size(); panel++) {
            int rest = now.budgets.get(panel);
            for (int p : eligible) {
                Proposal q = proposal(p);
                if (q.panel != panel) {
                    continue;
                }
                if (q.requested <= rest) {
                    m.amounts.put(p, q.requested);
                    rest -= q.requested;
                } else if (mode == 2) {
                    if (rest >= q.least) {
                        m.amounts.put(p, rest);
                        rest = 0;
                    }
                    break;
                } else if (mode == 0) {
                    break;
                }
            }
            m.left.add(rest);
        }
        m.pool = now.pool + m.left.stream().mapToInt(i -> i).sum();
        for (int p : eligible) {
            if (!m.amounts.containsKey(p) && proposal(p).requested <= m.pool) {
                m.amounts.put(p, proposal(p).requested);
                m.pool -= proposal(p).requested;
            }
        }
        return m;
    }

    private Money money(int mode) {
        return money(mode, order(-1).stream().filter(p -> normalized(p) >= state.line).collect(Collectors.toList()));
    }

    private static void mode(int mode) {
        if (mode < 0 || mode > 2) {
            throw new IllegalArgumentException();
        }
    }

    int amount(int mode, int p) {
        mode(mode);
        proposal(p);
        return money(mode).amounts.getOrDefault(p, 0);
    }

    int left(int mode, int panel) {
        mode(mode);
        index(panel, now.budgets.size());
        return money(mode).left.get(panel);
    }

    int poolLeft(int mode) {
        mode(mode);
        return money(mode).pool;
    }

    int funded(int mode) {
        mode(mode);
        return money(mode).amounts.keySet().stream().mapToInt(p -> 1 << p).sum();
    }

    int bestSum(int panel) {
        index(panel, now.budgets.size());
        int[] best = new int[now.budgets.get(panel) + 1];
        for (int p : order(panel)) {
            int worth = normalized(p);
            int cost = proposal(p).requested;
            for (int b = best.length - 1; b >= cost && worth >= state.line; b--) {
                best[b] = Math.max(best[b], best[b - cost] + worth);
            }
        }
        return best[best.length - 1];
    }

    int lineFor(int mode, int number) {
        mode(mode);
        if (number < 1 || number > 16) {
            throw new IllegalArgumentException();
        }
        List<Integer> order = order(-1);
        int[] normal = order.stream().mapToInt(this::normalized).toArray();
        Map<Integer, Integer> winners = new HashMap<>();
        for (int line = 100000; line >= 0; line--) {
            int many = 0;
            for (int n : normal) {
                many += n >= line ? 1 : 0;
            }
            if (winners.computeIfAbsent(many, k -> money(mode, order.subList(0, k)).amounts.size()) >= number) {
                return line;
            }
        }
        return -1;
    }

    // ---- appeals

    boolean appeal(int r, int p) {
        int x = review(r, p);
        if (x < 0) {
            throw new NoSuchElementException();
        }
        List<Integer> others = scores(k -> k.proposal == p && k.reviewer != r);
        if (others.isEmpty() || state.granted.contains(p)) {
            throw new IllegalStateException();
        }
        int k = others.size();
        if (Math.abs(k * x - others.stream().mapToInt(i -> i).sum()) <= k * now.limit) {
            return false;
        }
        change();
        state.reviews.remove(new Pair(r, p));
        state.declared.add(new Pair(r, p));
        state.granted.add(p);
        return true;
    }

    int undo() {
        if (past.isEmpty()) {
            throw new IllegalStateException();
        }
        state = past.pop();
        return past.size();
    }
}
