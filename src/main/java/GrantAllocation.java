import java.util.Arrays;
import java.util.NoSuchElementException;

/** Grant allocation with peer review; the document tells what each method promises. */
public final class GrantAllocation {
    /** There is no such value. */
    public static final int NONE = -1;

    private static final int MAX_PANELS = 4;
    private static final int MAX_REVIEWERS = 12;
    private static final int MAX_PROPOSALS = 16;
    private static final int MAX_REVIEWS_PER_PROPOSAL = 4;
    private static final int MAX_CAPACITY = 10;
    private static final int MAX_INSTITUTION = 9;
    private static final int MAX_TOPIC = 7;
    private static final int MAX_REQUEST = 9999;
    private static final int MAX_MONEY = 100000;
    private static final int MAX_LINE = 100000;
    private static final int MAX_LIMIT = 99;
    private static final int MAX_SCORE = 100;
    private static final int MAX_TEXT = 800;
    private static final int APPENDED = 20;
    private static final int MAX_UNDO = 10;

    private static final int USUAL_REVIEWS = 2;
    private static final int USUAL_LIMIT = 20;

    /** Stands in a score's place where there is no review; NONE stands there for a review without a score. */
    private static final int NO_REVIEW = 0;

    private static final int MODE_STRICT = 0;
    private static final int MODE_SKIPPING = 1;
    private static final int MODE_PARTIAL = 2;

    private final TextReader text = new TextReader();
    private final State state = new State();
    private final History history = new History();
    private final Ranking ranking = new Ranking();
    private final Funding funding = new Funding();
    private final Matching matching = new Matching();
    private final Knapsack knapsack = new Knapsack();
    private Setup setup = new Setup();
    /** Takes what a text says, so that a text with an error leaves the setup in use alone. */
    private Setup spareSetup = new Setup();

    public GrantAllocation() {
    }

    // ---- the text

    public int append(int a, int b, int c, int d, int e) throws IllegalStateException {
        if (text.length > MAX_TEXT - APPENDED) {
            throw new IllegalStateException("the text buffer is full");
        }
        text.put(a);
        text.put(b);
        text.put(c);
        text.put(d);
        text.put(e);
        return text.length;
    }

    public int truncate(int length) throws IndexOutOfBoundsException {
        if (length < 0 || length > text.length) {
            throw new IndexOutOfBoundsException("the text does not have this length");
        }
        text.length = length;
        return length;
    }

    public int load() throws IllegalArgumentException {
        boolean good = text.read(spareSetup);
        text.length = 0;
        if (!good) {
            throw new IllegalArgumentException("the text has an error");
        }
        Setup loaded = spareSetup;
        spareSetup = setup;
        setup = loaded;
        state.restart(setup);
        history.clear();
        return setup.proposals;
    }

    public int errorCode() {
        return text.errorCode;
    }

    public int errorPosition() {
        return text.errorPosition;
    }

    // ---- panels, reviewers and proposals

    public int count(int what) throws IllegalArgumentException {
        switch (what) {
            case 0:
                return setup.panels;
            case 1:
                return setup.reviewers;
            case 2:
                return setup.proposals;
            case 3:
                return state.countReviews();
            case 4:
                return state.countScores();
            case 5:
                return state.countDeclared();
            case 6:
                return Integer.bitCount(state.granted);
            default:
                throw new IllegalArgumentException("what is out of range");
        }
    }

    public boolean isConflict(int reviewer, int proposal) throws IndexOutOfBoundsException {
        checkPair(reviewer, proposal);
        return hasConflict(setup, state, reviewer, proposal);
    }

    public int match(int reviewer, int proposal) throws IndexOutOfBoundsException {
        checkPair(reviewer, proposal);
        return setup.matchOf(reviewer, proposal);
    }

    public boolean declare(int reviewer, int proposal) throws IndexOutOfBoundsException, IllegalStateException {
        checkPair(reviewer, proposal);
        if (state.hasReview(reviewer, proposal)) {
            throw new IllegalStateException("the reviewer has a review of the proposal");
        }
        history.remember(state);
        boolean isNew = !state.isDeclared(reviewer, proposal);
        state.addConflict(reviewer, proposal);
        return isNew;
    }

    // ---- reviews

    public int assign(int reviewer, int proposal)
            throws IndexOutOfBoundsException, IllegalArgumentException, IllegalStateException {
        checkPair(reviewer, proposal);
        if (!fits(setup, state, reviewer, proposal)) {
            throw new IllegalArgumentException("the reviewer does not fit the proposal");
        }
        if (!canTake(reviewer, proposal) || state.reviewsOfProposal(proposal) >= setup.reviewsPerProposal) {
            throw new IllegalStateException("there is no room for this review");
        }
        history.remember(state);
        state.put(reviewer, proposal, NONE);
        return state.reviewsOfProposal(proposal);
    }

    public int unassign(int reviewer, int proposal) throws IndexOutOfBoundsException, NoSuchElementException {
        checkPair(reviewer, proposal);
        checkReview(reviewer, proposal);
        history.remember(state);
        int score = state.scoreAt(reviewer, proposal);
        state.put(reviewer, proposal, NO_REVIEW);
        return score;
    }

    public int assignAll(int panel) throws IndexOutOfBoundsException {
        checkPanel(panel);
        history.remember(state);
        int added = 0;
        for (int round = 1; round <= setup.reviewsPerProposal; round++) {
            for (int p = 0; p < setup.proposals; p++) {
                if (setup.proposalPanel[p] == panel && state.reviewsOfProposal(p) < round && addReview(p)) {
                    added++;
                }
            }
        }
        return added;
    }

    public int reviewerOf(int proposal, int k) throws IndexOutOfBoundsException {
        checkProposal(proposal);
        int index = 0;
        for (int r = 0; r < setup.reviewers; r++) {
            if (state.hasReview(r, proposal)) {
                if (index == k) {
                    return r;
                }
                index++;
            }
        }
        throw new IndexOutOfBoundsException("the proposal has no reviewer with this index");
    }

    public int loadOf(int reviewer) throws IndexOutOfBoundsException {
        checkReviewer(reviewer);
        return state.reviewsOfReviewer(reviewer);
    }

    public int matchSum(int panel) throws IndexOutOfBoundsException {
        checkPanel(panel);
        int sum = 0;
        for (int p = 0; p < setup.proposals; p++) {
            for (int r = 0; r < setup.reviewers; r++) {
                if (setup.proposalPanel[p] == panel && state.hasReview(r, p)) {
                    sum += setup.matchOf(r, p);
                }
            }
        }
        return sum;
    }

    public int mostReviews(int panel) throws IndexOutOfBoundsException {
        checkPanel(panel);
        matching.solve(setup, state, panel);
        return matching.size;
    }

    public int bestMatchSum(int panel) throws IndexOutOfBoundsException {
        checkPanel(panel);
        matching.solve(setup, state, panel);
        return matching.sum;
    }

    // ---- scores

    public int setScore(int reviewer, int proposal, int score)
            throws IndexOutOfBoundsException, IllegalArgumentException, NoSuchElementException {
        checkPair(reviewer, proposal);
        if (score != NONE && (score < 1 || score > MAX_SCORE)) {
            throw new IllegalArgumentException("the score is out of range");
        }
        checkReview(reviewer, proposal);
        history.remember(state);
        int previous = state.scoreAt(reviewer, proposal);
        state.put(reviewer, proposal, score);
        return previous;
    }

    public int adjusted(int reviewer, int proposal) throws IndexOutOfBoundsException, NoSuchElementException {
        checkPair(reviewer, proposal);
        checkScore(reviewer, proposal);
        ranking.update(setup, state);
        return ranking.adjustedScore(reviewer, state.scoreAt(reviewer, proposal));
    }

    public int normalized(int proposal) throws IndexOutOfBoundsException, NoSuchElementException {
        checkProposal(proposal);
        ranking.update(setup, state);
        checkRanked(proposal);
        return ranking.normal[proposal];
    }

    public double leniency(int reviewer) throws IndexOutOfBoundsException, NoSuchElementException {
        checkReviewer(reviewer);
        ranking.update(setup, state);
        int number = ranking.given[reviewer];
        int panelNumber = 0;
        int panelTotal = 0;
        for (int r = 0; r < setup.reviewers; r++) {
            if (setup.reviewerPanel[r] == setup.reviewerPanel[reviewer]) {
                panelNumber += ranking.given[r];
                panelTotal += ranking.total[r];
            }
        }
        if (number == 0 || panelNumber == 0) {
            throw new NoSuchElementException("the reviewer has given no score");
        }
        return (double) ranking.total[reviewer] / (double) number - (double) panelTotal / (double) panelNumber;
    }

    public double disagreement(int proposal) throws IndexOutOfBoundsException, NoSuchElementException {
        checkProposal(proposal);
        int pairs = 0;
        int sum = 0;
        for (int r = 0; r < setup.reviewers; r++) {
            for (int s = 0; s < r; s++) {
                if (state.hasScore(r, proposal) && state.hasScore(s, proposal)) {
                    pairs++;
                    sum += Math.abs(state.scoreAt(r, proposal) - state.scoreAt(s, proposal));
                }
            }
        }
        if (pairs == 0) {
            throw new NoSuchElementException("the proposal has fewer than 2 scores");
        }
        return (double) sum / (double) pairs;
    }

    // ---- ranking

    public int rank(int proposal) throws IndexOutOfBoundsException, NoSuchElementException {
        checkProposal(proposal);
        ranking.update(setup, state);
        checkRanked(proposal);
        int place = 0;
        for (int p = 0; p < setup.proposals; p++) {
            if (setup.proposalPanel[p] == setup.proposalPanel[proposal]
                    && ranking.isRanked(p) && ranking.isBefore(p, proposal)) {
                place++;
            }
        }
        return place;
    }

    public int ranked(int panel, int rank) throws IndexOutOfBoundsException {
        if (panel != NONE) {
            checkPanel(panel);
        }
        ranking.update(setup, state);
        int place = 0;
        for (int i = 0; i < ranking.size; i++) {
            int p = ranking.order[i];
            if (panel == NONE || setup.proposalPanel[p] == panel) {
                if (place == rank) {
                    return p;
                }
                place++;
            }
        }
        throw new IndexOutOfBoundsException("no proposal has this rank");
    }

    public int tieRound(int a, int b)
            throws IndexOutOfBoundsException, IllegalArgumentException, NoSuchElementException {
        checkProposal(a);
        checkProposal(b);
        if (a == b) {
            throw new IllegalArgumentException("both proposals are the same");
        }
        ranking.update(setup, state);
        checkRanked(a);
        checkRanked(b);
        return ranking.separation(a, b);
    }

    // ---- funding

    public int setLine(int line) throws IllegalArgumentException {
        if (line < 0 || line > MAX_LINE) {
            throw new IllegalArgumentException("the line is out of range");
        }
        history.remember(state);
        int previous = state.line;
        state.line = line;
        return previous;
    }

    public int amount(int mode, int proposal) throws IllegalArgumentException, IndexOutOfBoundsException {
        checkMode(mode);
        checkProposal(proposal);
        fund(mode);
        return funding.share[proposal];
    }

    public int left(int mode, int panel) throws IllegalArgumentException, IndexOutOfBoundsException {
        checkMode(mode);
        checkPanel(panel);
        fund(mode);
        return funding.panelRest[panel];
    }

    public int poolLeft(int mode) throws IllegalArgumentException {
        checkMode(mode);
        fund(mode);
        return funding.poolRest;
    }

    public int funded(int mode) throws IllegalArgumentException {
        checkMode(mode);
        fund(mode);
        return funding.winners(setup.proposals);
    }

    public int bestSum(int panel) throws IndexOutOfBoundsException {
        checkPanel(panel);
        ranking.update(setup, state);
        knapsack.clear();
        for (int i = 0; i < ranking.size; i++) {
            int p = ranking.order[i];
            if (setup.proposalPanel[p] == panel && ranking.normal[p] >= state.line) {
                knapsack.offer(setup.requested[p], ranking.normal[p]);
            }
        }
        return knapsack.best(setup.budget[panel]);
    }

    public int lineFor(int mode, int number) throws IllegalArgumentException {
        checkMode(mode);
        if (number < 1 || number > MAX_PROPOSALS) {
            throw new IllegalArgumentException("the number is out of range");
        }
        ranking.update(setup, state);
        // Only a line at some proposal's own score can be the greatest one, and the order lists them downwards.
        for (int i = 0; i < ranking.size; i++) {
            int line = Math.min(ranking.normal[ranking.order[i]], MAX_LINE);
            if (line < 0) {
                return NONE;
            }
            funding.distribute(setup, ranking, mode, line);
            if (Integer.bitCount(funding.winners(setup.proposals)) >= number) {
                return line;
            }
        }
        return NONE;
    }

    // ---- appeals

    public boolean appeal(int reviewer, int proposal)
            throws IndexOutOfBoundsException, NoSuchElementException, IllegalStateException {
        checkPair(reviewer, proposal);
        checkScore(reviewer, proposal);
        int others = 0;
        int sum = 0;
        for (int r = 0; r < setup.reviewers; r++) {
            if (r != reviewer && state.hasScore(r, proposal)) {
                others++;
                sum += state.scoreAt(r, proposal);
            }
        }
        if (others == 0 || state.isGranted(proposal)) {
            throw new IllegalStateException("there is no appeal against this score");
        }
        int distance = Math.abs(others * state.scoreAt(reviewer, proposal) - sum);
        if (distance <= others * setup.limit) {
            return false;
        }
        history.remember(state);
        state.put(reviewer, proposal, NO_REVIEW);
        state.addConflict(reviewer, proposal);
        state.grantAppeal(proposal);
        return true;
    }

    public int undo() throws IllegalStateException {
        if (history.size == 0) {
            throw new IllegalStateException("there is no change to undo");
        }
        history.restore(state);
        return history.size;
    }

    // ---- checks of the arguments

    private void checkPanel(int panel) {
        if (panel < 0 || panel >= setup.panels) {
            throw new IndexOutOfBoundsException("there is no such panel");
        }
    }

    private void checkReviewer(int reviewer) {
        if (reviewer < 0 || reviewer >= setup.reviewers) {
            throw new IndexOutOfBoundsException("there is no such reviewer");
        }
    }

    private void checkProposal(int proposal) {
        if (proposal < 0 || proposal >= setup.proposals) {
            throw new IndexOutOfBoundsException("there is no such proposal");
        }
    }

    private void checkPair(int reviewer, int proposal) {
        checkReviewer(reviewer);
        checkProposal(proposal);
    }

    private void checkReview(int reviewer, int proposal) {
        if (!state.hasReview(reviewer, proposal)) {
            throw new NoSuchElementException("there is no such review");
        }
    }

    private void checkScore(int reviewer, int proposal) {
        if (!state.hasScore(reviewer, proposal)) {
            throw new NoSuchElementException("there is no such review with a score");
        }
    }

    /** Asks the ranking as it was last updated. */
    private void checkRanked(int proposal) {
        if (!ranking.isRanked(proposal)) {
            throw new NoSuchElementException("the proposal is not ranked");
        }
    }

    private static void checkMode(int mode) {
        if (mode < MODE_STRICT || mode > MODE_PARTIAL) {
            throw new IllegalArgumentException("the mode is out of range");
        }
    }

    // ---- what several methods need

    private static int cell(int reviewer, int proposal) {
        return reviewer * MAX_PROPOSALS + proposal;
    }

    private static boolean hasConflict(Setup setup, State state, int reviewer, int proposal) {
        return setup.reviewerInstitution[reviewer] == setup.proposalInstitution[proposal]
                || state.isDeclared(reviewer, proposal);
    }

    private static boolean fits(Setup setup, State state, int reviewer, int proposal) {
        return setup.reviewerPanel[reviewer] == setup.proposalPanel[proposal]
                && !hasConflict(setup, state, reviewer, proposal);
    }

    private boolean canTake(int reviewer, int proposal) {
        return !state.hasReview(reviewer, proposal)
                && state.reviewsOfReviewer(reviewer) < setup.capacity[reviewer];
    }

    /** Gives a proposal one more review by the greedy choice; false if no reviewer can take it. */
    private boolean addReview(int proposal) {
        int chosen = NONE;
        for (int r = 0; r < setup.reviewers; r++) {
            if (fits(setup, state, r, proposal) && canTake(r, proposal)
                    && (chosen == NONE || isBetterChoice(r, chosen, proposal))) {
                chosen = r;
            }
        }
        if (chosen == NONE) {
            return false;
        }
        state.put(chosen, proposal, NONE);
        return true;
    }

    private boolean isBetterChoice(int reviewer, int other, int proposal) {
        int match = setup.matchOf(reviewer, proposal);
        int otherMatch = setup.matchOf(other, proposal);
        if (match != otherMatch) {
            return match > otherMatch;
        }
        return state.reviewsOfReviewer(reviewer) < state.reviewsOfReviewer(other);
    }

    private void fund(int mode) {
        ranking.update(setup, state);
        funding.distribute(setup, ranking, mode, state.line);
    }

    /** What a text sets up; nothing but a text changes it. */
    private static final class Setup {
        int panels;
        int reviewers;
        int proposals;
        final int[] budget = new int[MAX_PANELS];
        final int[] reviewerPanel = new int[MAX_REVIEWERS];
        final int[] reviewerInstitution = new int[MAX_REVIEWERS];
        final int[] capacity = new int[MAX_REVIEWERS];
        /** A bit set for each reviewer, bit t for topic t. */
        final int[] topics = new int[MAX_REVIEWERS];
        /** The declared conflicts, a bit set for each reviewer, bit p for proposal p. */
        final int[] conflicts = new int[MAX_REVIEWERS];
        final int[] proposalPanel = new int[MAX_PROPOSALS];
        final int[] proposalInstitution = new int[MAX_PROPOSALS];
        final int[] topic = new int[MAX_PROPOSALS];
        final int[] requested = new int[MAX_PROPOSALS];
        final int[] least = new int[MAX_PROPOSALS];
        int reviewsPerProposal = USUAL_REVIEWS;
        int limit = USUAL_LIMIT;
        int line;
        int pool;

        void clear() {
            panels = 0;
            reviewers = 0;
            proposals = 0;
            Arrays.fill(conflicts, 0);
            reviewsPerProposal = USUAL_REVIEWS;
            limit = USUAL_LIMIT;
            line = 0;
            pool = 0;
        }

        int matchOf(int reviewer, int proposal) {
            int wanted = 1 << topic[proposal];
            int near = (wanted << 1) | (wanted >> 1);
            if ((topics[reviewer] & wanted) != 0) {
                return 2;
            }
            return (topics[reviewer] & near) != 0 ? 1 : 0;
        }
    }

    /** What the changes change. */
    private static final class State {
        private final int[] scores = new int[MAX_REVIEWERS * MAX_PROPOSALS];
        /** A bit set for each reviewer, bit p for proposal p. */
        private final int[] declared = new int[MAX_REVIEWERS];
        /** The proposals with a granted appeal, bit p for proposal p. */
        int granted;
        int line;

        void restart(Setup setup) {
            Arrays.fill(scores, NO_REVIEW);
            System.arraycopy(setup.conflicts, 0, declared, 0, MAX_REVIEWERS);
            granted = 0;
            line = setup.line;
        }

        void copyFrom(State other) {
            System.arraycopy(other.scores, 0, scores, 0, MAX_REVIEWERS * MAX_PROPOSALS);
            System.arraycopy(other.declared, 0, declared, 0, MAX_REVIEWERS);
            granted = other.granted;
            line = other.line;
        }

        int scoreAt(int reviewer, int proposal) {
            return scores[cell(reviewer, proposal)];
        }

        void put(int reviewer, int proposal, int score) {
            scores[cell(reviewer, proposal)] = score;
        }

        boolean hasReview(int reviewer, int proposal) {
            return scoreAt(reviewer, proposal) != NO_REVIEW;
        }

        boolean hasScore(int reviewer, int proposal) {
            return scoreAt(reviewer, proposal) > 0;
        }

        boolean isDeclared(int reviewer, int proposal) {
            return (declared[reviewer] >> proposal & 1) != 0;
        }

        void addConflict(int reviewer, int proposal) {
            declared[reviewer] |= 1 << proposal;
        }

        boolean isGranted(int proposal) {
            return (granted >> proposal & 1) != 0;
        }

        void grantAppeal(int proposal) {
            granted |= 1 << proposal;
        }

        int reviewsOfReviewer(int reviewer) {
            int number = 0;
            for (int p = 0; p < MAX_PROPOSALS; p++) {
                if (hasReview(reviewer, p)) {
                    number++;
                }
            }
            return number;
        }

        int reviewsOfProposal(int proposal) {
            int number = 0;
            for (int r = 0; r < MAX_REVIEWERS; r++) {
                if (hasReview(r, proposal)) {
                    number++;
                }
            }
            return number;
        }

        int countReviews() {
            int number = 0;
            for (int score : scores) {
                if (score != NO_REVIEW) {
                    number++;
                }
            }
            return number;
        }

        int countScores() {
            int number = 0;
            for (int score : scores) {
                if (score > 0) {
                    number++;
                }
            }
            return number;
        }

        int countDeclared() {
            int number = 0;
            for (int proposals : declared) {
                number += Integer.bitCount(proposals);
            }
            return number;
        }
    }

    /** The states before the latest changes, in a ring whose rows are used again. */
    private static final class History {
        private final State[] before = new State[MAX_UNDO];
        /** Where the next state goes. */
        private int next;
        int size;

        History() {
            for (int i = 0; i < MAX_UNDO; i++) {
                before[i] = new State();
            }
        }

        void clear() {
            size = 0;
        }

        void remember(State state) {
            before[next].copyFrom(state);
            next = next + 1 < MAX_UNDO ? next + 1 : 0;
            size = Math.min(size + 1, MAX_UNDO);
        }

        void restore(State state) {
            next = next > 0 ? next - 1 : MAX_UNDO - 1;
            size--;
            state.copyFrom(before[next]);
        }
    }

    /** The text buffer and the reading of its statements. */
    private static final class TextReader {
        private static final int END = 0;
        private static final int BLANK = 1;
        private static final int WORD = 2;
        private static final int NUMBER = 3;
        private static final int SEMICOLON = 4;
        private static final int BAD = 5;

        private static final int WRONG_TOKEN = 1;
        private static final int WRONG_NUMBER = 2;
        private static final int TOO_MANY = 3;

        private static final int MAX_DIGITS = 6;

        private final byte[] bytes = new byte[MAX_TEXT];
        int length;
        int errorCode;
        int errorPosition = NONE;
        /** The token that is looked at: its kind, its first byte, the byte behind it, and a number's value. */
        private int kind;
        private int start;
        private int end;
        private int value;

        void put(int fourBytes) {
            for (int shift = 24; shift >= 0 && length < MAX_TEXT; shift -= 8) {
                bytes[length] = (byte) (fourBytes >> shift);
                length++;
            }
        }

        boolean read(Setup into) {
            into.clear();
            errorCode = 0;
            errorPosition = NONE;
            end = 0;
            nextToken();
            for (int n = 0; n < MAX_TEXT && kind != END && errorCode == 0; n++) {
                readStatement(into);
                readSemicolon();
            }
            return errorCode == 0;
        }

        private void readStatement(Setup into) {
            if (isWord("panel")) {
                readPanel(into);
            } else if (isWord("reviewer")) {
                readReviewer(into);
            } else if (isWord("proposal")) {
                readProposal(into);
            } else if (isWord("conflict")) {
                readConflict(into);
            } else {
                readSetting(into);
            }
        }

        private void readPanel(Setup into) {
            int panel = into.panels;
            if (panel >= MAX_PANELS) {
                fail(TOO_MANY);
                return;
            }
            nextToken();
            into.budget[panel] = readNumber(0, MAX_MONEY);
            into.panels = panel + 1;
        }

        private void readReviewer(Setup into) {
            int reviewer = into.reviewers;
            if (reviewer >= MAX_REVIEWERS) {
                fail(TOO_MANY);
                return;
            }
            nextToken();
            into.reviewerPanel[reviewer] = readNumber(0, into.panels - 1);
            into.reviewerInstitution[reviewer] = readNumber(0, MAX_INSTITUTION);
            into.capacity[reviewer] = readNumber(1, MAX_CAPACITY);
            readTopicsWord();
            int topics = 0;
            for (int n = 0; n < MAX_TEXT && (n == 0 || kind == NUMBER); n++) {
                int topic = readNumber(0, MAX_TOPIC);
                if (topic != NONE) {
                    topics |= 1 << topic;
                }
            }
            into.topics[reviewer] = topics;
            into.reviewers = reviewer + 1;
        }

        private void readTopicsWord() {
            if (!isWord("topics")) {
                fail(WRONG_TOKEN);
                return;
            }
            nextToken();
        }

        private void readProposal(Setup into) {
            int proposal = into.proposals;
            if (proposal >= MAX_PROPOSALS) {
                fail(TOO_MANY);
                return;
            }
            nextToken();
            into.proposalPanel[proposal] = readNumber(0, into.panels - 1);
            into.proposalInstitution[proposal] = readNumber(0, MAX_INSTITUTION);
            into.topic[proposal] = readNumber(0, MAX_TOPIC);
            int requested = readNumber(1, MAX_REQUEST);
            into.requested[proposal] = requested;
            into.least[proposal] = requested;
            if (isWord("least")) {
                nextToken();
                into.least[proposal] = readNumber(1, requested);
            }
            into.proposals = proposal + 1;
        }

        private void readConflict(Setup into) {
            nextToken();
            int reviewer = readNumber(0, into.reviewers - 1);
            int proposal = readNumber(0, into.proposals - 1);
            if (reviewer != NONE && proposal != NONE) {
                into.conflicts[reviewer] |= 1 << proposal;
            }
        }

        private void readSetting(Setup into) {
            if (isWord("reviews")) {
                nextToken();
                into.reviewsPerProposal = readNumber(1, MAX_REVIEWS_PER_PROPOSAL);
            } else if (isWord("line")) {
                nextToken();
                into.line = readNumber(0, MAX_LINE);
            } else if (isWord("pool")) {
                nextToken();
                into.pool = readNumber(0, MAX_MONEY);
            } else if (isWord("limit")) {
                nextToken();
                into.limit = readNumber(0, MAX_LIMIT);
            } else {
                fail(WRONG_TOKEN);
            }
        }

        /** Reads a number in a range; NONE if there is none. */
        private int readNumber(int low, int high) {
            if (kind != NUMBER) {
                fail(WRONG_TOKEN);
                return NONE;
            }
            if (value < low || value > high) {
                fail(WRONG_NUMBER);
                return NONE;
            }
            int number = value;
            nextToken();
            return number;
        }

        private void readSemicolon() {
            if (kind != SEMICOLON) {
                fail(WRONG_TOKEN);
                return;
            }
            nextToken();
        }

        /** Keeps the first error, and stays at its token so that whatever is read behind it fails, too. */
        private void fail(int code) {
            if (errorCode == 0) {
                errorCode = code;
                errorPosition = start;
            }
            kind = BAD;
        }

        private boolean isWord(String word) {
            if (kind != WORD || end - start != word.length()) {
                return false;
            }
            for (int i = 0; i < word.length(); i++) {
                if (bytes[start + i] != word.charAt(i)) {
                    return false;
                }
            }
            return true;
        }

        private void nextToken() {
            while (end < length && kindOf(bytes[end]) == BLANK) {
                end++;
            }
            start = end;
            kind = end < length ? kindOf(bytes[end]) : END;
            if (kind == SEMICOLON) {
                end++;
            } else if (kind == WORD || kind == NUMBER) {
                while (end < length && kindOf(bytes[end]) == kind) {
                    end++;
                }
            }
            if (kind == NUMBER) {
                evaluate();
            }
        }

        private void evaluate() {
            if (end - start > MAX_DIGITS) {
                kind = BAD;
                return;
            }
            value = 0;
            for (int i = start; i < end; i++) {
                value = 10 * value + bytes[i] - '0';
            }
        }

        private static int kindOf(byte b) {
            if (b == 10 || b == 32) {
                return BLANK;
            }
            if (b >= 'a' && b <= 'z') {
                return WORD;
            }
            if (b >= '0' && b <= '9') {
                return NUMBER;
            }
            return b == ';' ? SEMICOLON : BAD;
        }
    }

    /** The normalized scores and the order of the proposals, as of the latest update. */
    private static final class Ranking {
        private static final int MIDDLE = 50000;
        private static final int SPREAD = 20000;
        private static final int HIGH_SCORE = 80;
        private static final int LAST_ROUND = 4;

        /** For each reviewer the document's n, S and D. */
        final int[] given = new int[MAX_REVIEWERS];
        final int[] total = new int[MAX_REVIEWERS];
        private final int[] deviation = new int[MAX_REVIEWERS];
        /** For each proposal what it is ranked by. */
        private final int[] scored = new int[MAX_PROPOSALS];
        final int[] normal = new int[MAX_PROPOSALS];
        private final int[] lowest = new int[MAX_PROPOSALS];
        private final int[] high = new int[MAX_PROPOSALS];
        private final int[] requested = new int[MAX_PROPOSALS];
        /** The ranking in all; size of them are ranked. */
        final int[] order = new int[MAX_PROPOSALS];
        int size;

        void update(Setup setup, State state) {
            for (int r = 0; r < setup.reviewers; r++) {
                measureReviewer(state, r);
            }
            size = 0;
            for (int p = 0; p < setup.proposals; p++) {
                requested[p] = setup.requested[p];
                measureProposal(state, p);
                if (isRanked(p)) {
                    insert(p);
                }
            }
        }

        private void measureReviewer(State state, int reviewer) {
            int number = 0;
            int sum = 0;
            for (int p = 0; p < MAX_PROPOSALS; p++) {
                if (state.hasScore(reviewer, p)) {
                    number++;
                    sum += state.scoreAt(reviewer, p);
                }
            }
            int distances = 0;
            for (int p = 0; p < MAX_PROPOSALS; p++) {
                if (state.hasScore(reviewer, p)) {
                    distances += Math.abs(number * state.scoreAt(reviewer, p) - sum);
                }
            }
            given[reviewer] = number;
            total[reviewer] = sum;
            deviation[reviewer] = distances;
        }

        private void measureProposal(State state, int proposal) {
            int number = 0;
            int sum = 0;
            int least = MAX_SCORE;
            int highScores = 0;
            for (int r = 0; r < MAX_REVIEWERS; r++) {
                if (state.hasScore(r, proposal)) {
                    int score = state.scoreAt(r, proposal);
                    number++;
                    sum += adjustedScore(r, score);
                    least = Math.min(least, score);
                    highScores += score >= HIGH_SCORE ? 1 : 0;
                }
            }
            scored[proposal] = number;
            normal[proposal] = number == 0 ? 0 : Math.floorDiv(sum, number);
            lowest[proposal] = least;
            high[proposal] = highScores;
        }

        int adjustedScore(int reviewer, int score) {
            int n = given[reviewer];
            if (deviation[reviewer] == 0) {
                return MIDDLE;
            }
            return MIDDLE + Math.floorDiv(SPREAD * n * (n * score - total[reviewer]), deviation[reviewer]);
        }

        private void insert(int proposal) {
            int place = size;
            while (place > 0 && isBefore(proposal, order[place - 1])) {
                order[place] = order[place - 1];
                place--;
            }
            order[place] = proposal;
            size++;
        }

        boolean isRanked(int proposal) {
            return scored[proposal] > 0;
        }

        boolean isBefore(int a, int b) {
            int round = separation(a, b);
            return merit(round, a) > merit(round, b);
        }

        /** The first round whose merits differ. */
        int separation(int a, int b) {
            for (int round = 0; round < LAST_ROUND; round++) {
                if (merit(round, a) != merit(round, b)) {
                    return round;
                }
            }
            return LAST_ROUND;
        }

        /** What counts in a tie round; the greater merit comes first. */
        private int merit(int round, int proposal) {
            switch (round) {
                case 0:
                    return normal[proposal];
                case 1:
                    return lowest[proposal];
                case 2:
                    return high[proposal];
                case 3:
                    return -requested[proposal];
                default:
                    return -proposal;
            }
        }
    }

    /** Who gets what with one mode and one line, as of the latest distribution. */
    private static final class Funding {
        final int[] share = new int[MAX_PROPOSALS];
        final int[] panelRest = new int[MAX_PANELS];
        int poolRest;

        void distribute(Setup setup, Ranking ranking, int mode, int line) {
            Arrays.fill(share, 0);
            poolRest = setup.pool;
            for (int panel = 0; panel < setup.panels; panel++) {
                fundPanel(setup, ranking, mode, line, panel);
                poolRest += panelRest[panel];
            }
            fundFromPool(setup, ranking, line);
        }

        private void fundPanel(Setup setup, Ranking ranking, int mode, int line, int panel) {
            int rest = setup.budget[panel];
            boolean goesOn = true;
            for (int i = 0; i < ranking.size && goesOn; i++) {
                int p = ranking.order[i];
                if (setup.proposalPanel[p] == panel && ranking.normal[p] >= line) {
                    share[p] = panelShare(mode, rest, setup.requested[p], setup.least[p]);
                    rest -= share[p];
                    goesOn = mode == MODE_SKIPPING || share[p] == setup.requested[p];
                }
            }
            panelRest[panel] = rest;
        }

        private static int panelShare(int mode, int rest, int requested, int least) {
            if (requested <= rest) {
                return requested;
            }
            return mode == MODE_PARTIAL && least <= rest ? rest : 0;
        }

        private void fundFromPool(Setup setup, Ranking ranking, int line) {
            for (int i = 0; i < ranking.size; i++) {
                int p = ranking.order[i];
                if (ranking.normal[p] >= line && share[p] == 0 && setup.requested[p] <= poolRest) {
                    share[p] = setup.requested[p];
                    poolRest -= share[p];
                }
            }
        }

        int winners(int proposals) {
            int set = 0;
            for (int p = 0; p < proposals; p++) {
                if (share[p] > 0) {
                    set |= 1 << p;
                }
            }
            return set;
        }
    }

    /**
     * The most reviews that a panel could have, and of all ways to have so many the greatest sum of matches.
     * One review more at a time, always along the path of exchanges that gains most: so each number of
     * reviews is reached with its greatest sum.
     */
    private static final class Matching {
        private static final int UNREACHED = -1000000;

        /** The match of each pair that fits; NONE for the other pairs. */
        private final int[] worth = new int[MAX_REVIEWERS * MAX_PROPOSALS];
        private final boolean[] used = new boolean[MAX_REVIEWERS * MAX_PROPOSALS];
        /** How many reviews more each one may have. */
        private final int[] reviewerRoom = new int[MAX_REVIEWERS];
        private final int[] proposalRoom = new int[MAX_PROPOSALS];
        /** The greatest gain of a path that ends there, and the one before it on this path. */
        private final int[] reviewerGain = new int[MAX_REVIEWERS];
        private final int[] reviewerFrom = new int[MAX_REVIEWERS];
        private final int[] proposalGain = new int[MAX_PROPOSALS];
        private final int[] proposalFrom = new int[MAX_PROPOSALS];
        private int reviewers;
        private int proposals;
        int size;
        int sum;

        void solve(Setup setup, State state, int panel) {
            prepare(setup, state, panel);
            for (int n = 0; n < MAX_PROPOSALS * MAX_REVIEWS_PER_PROPOSAL; n++) {
                findPaths();
                int last = bestEnd();
                if (last == NONE) {
                    return;
                }
                size++;
                sum += reviewerGain[last];
                follow(last);
            }
        }

        private void prepare(Setup setup, State state, int panel) {
            size = 0;
            sum = 0;
            reviewers = setup.reviewers;
            proposals = setup.proposals;
            for (int r = 0; r < reviewers; r++) {
                reviewerRoom[r] = setup.capacity[r];
            }
            for (int p = 0; p < proposals; p++) {
                boolean isHere = setup.proposalPanel[p] == panel;
                proposalRoom[p] = isHere ? setup.reviewsPerProposal : 0;
                for (int r = 0; r < reviewers; r++) {
                    boolean isPair = isHere && fits(setup, state, r, p);
                    worth[cell(r, p)] = isPair ? setup.matchOf(r, p) : NONE;
                    used[cell(r, p)] = false;
                }
            }
        }

        private void findPaths() {
            Arrays.fill(reviewerGain, UNREACHED);
            Arrays.fill(reviewerFrom, NONE);
            Arrays.fill(proposalFrom, NONE);
            for (int p = 0; p < proposals; p++) {
                proposalGain[p] = proposalRoom[p] > 0 ? 0 : UNREACHED;
            }
            // A path passes each reviewer once at the most.
            for (int n = 0; n <= MAX_REVIEWERS; n++) {
                if (!reachReviewers() || !reachProposals()) {
                    return;
                }
            }
        }

        /** Goes from proposals to reviewers by adding reviews; tells whether some gain grew. */
        private boolean reachReviewers() {
            boolean grew = false;
            for (int p = 0; p < proposals; p++) {
                for (int r = 0; r < reviewers && proposalGain[p] != UNREACHED; r++) {
                    int pair = cell(r, p);
                    if (worth[pair] != NONE && !used[pair] && proposalGain[p] + worth[pair] > reviewerGain[r]) {
                        reviewerGain[r] = proposalGain[p] + worth[pair];
                        reviewerFrom[r] = p;
                        grew = true;
                    }
                }
            }
            return grew;
        }

        /** Goes from reviewers to proposals by taking reviews back; tells whether some gain grew. */
        private boolean reachProposals() {
            boolean grew = false;
            for (int r = 0; r < reviewers; r++) {
                for (int p = 0; p < proposals && reviewerGain[r] != UNREACHED; p++) {
                    int pair = cell(r, p);
                    if (used[pair] && reviewerGain[r] - worth[pair] > proposalGain[p]) {
                        proposalGain[p] = reviewerGain[r] - worth[pair];
                        proposalFrom[p] = r;
                        grew = true;
                    }
                }
            }
            return grew;
        }

        private int bestEnd() {
            int best = NONE;
            for (int r = 0; r < reviewers; r++) {
                if (reviewerRoom[r] > 0 && reviewerFrom[r] != NONE
                        && (best == NONE || reviewerGain[r] > reviewerGain[best])) {
                    best = r;
                }
            }
            return best;
        }

        /** Makes the exchanges of the path that ends at a reviewer. */
        private void follow(int last) {
            reviewerRoom[last]--;
            int r = last;
            for (int n = 0; n < MAX_REVIEWERS && r != NONE; n++) {
                int p = reviewerFrom[r];
                if (p == NONE) {
                    return;
                }
                used[cell(r, p)] = true;
                r = proposalFrom[p];
                if (r == NONE) {
                    proposalRoom[p]--;
                } else {
                    used[cell(r, p)] = false;
                }
            }
        }
    }

    /** The best use of a budget: the offers go to two halves in turn, whose choices are then paired. */
    private static final class Knapsack {
        private final Choices even = new Choices();
        private final Choices odd = new Choices();
        private int offers;

        void clear() {
            even.clear();
            odd.clear();
            offers = 0;
        }

        void offer(int cost, int worth) {
            if ((offers & 1) == 0) {
                even.add(cost, worth);
            } else {
                odd.add(cost, worth);
            }
            offers++;
        }

        int best(int budget) {
            int best = 0;
            int j = odd.size - 1;
            for (int i = 0; i < even.size; i++) {
                while (j >= 0 && even.cost[i] + odd.cost[j] > budget) {
                    j--;
                }
                if (j < 0) {
                    return best;
                }
                best = Math.max(best, even.worth[i] + odd.worth[j]);
            }
            return best;
        }
    }

    /** The choices among some offers, cheapest first; one that costs more is kept only if it is worth more. */
    private static final class Choices {
        private static final int MAX_CHOICES = 256;

        int[] cost = new int[MAX_CHOICES];
        int[] worth = new int[MAX_CHOICES];
        int size = 1;
        private int[] nextCost = new int[MAX_CHOICES];
        private int[] nextWorth = new int[MAX_CHOICES];
        private int nextSize;

        void clear() {
            cost[0] = 0;
            worth[0] = 0;
            size = 1;
        }

        /** Merges the choices without the new offer and those with it. */
        void add(int itemCost, int itemWorth) {
            nextSize = 0;
            int without = 0;
            int with = 0;
            for (int n = 0; n < 2 * size; n++) {
                if (with >= size || without < size && cost[without] <= cost[with] + itemCost) {
                    keep(cost[without], worth[without]);
                    without++;
                } else {
                    keep(cost[with] + itemCost, worth[with] + itemWorth);
                    with++;
                }
            }
            swap();
        }

        private void keep(int choiceCost, int choiceWorth) {
            boolean isWorthMore = nextSize == 0 || choiceWorth > nextWorth[nextSize - 1];
            if (isWorthMore && nextSize < MAX_CHOICES) {
                nextCost[nextSize] = choiceCost;
                nextWorth[nextSize] = choiceWorth;
                nextSize++;
            }
        }

        private void swap() {
            int[] oldCost = cost;
            int[] oldWorth = worth;
            cost = nextCost;
            worth = nextWorth;
            nextCost = oldCost;
            nextWorth = oldWorth;
            size = nextSize;
        }
    }
}
