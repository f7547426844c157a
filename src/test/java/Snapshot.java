/** The answers of an object to every question that changes nothing, so that two moments or two objects can be compared. */
final class Snapshot {
    private Snapshot() {
    }

    static String of(GrantAllocation x) {
        return x.errorCode() + " " + x.errorPosition() + withoutError(x);
    }

    static String withoutError(GrantAllocation x) {
        StringBuilder all = new StringBuilder();
        for (int what = 0; what <= 6; what++) {
            all.append(' ').append(x.count(what));
        }
        for (int panel = 0; panel < x.count(0); panel++) {
            panel(x, panel, all);
        }
        for (int reviewer = 0; reviewer < x.count(1); reviewer++) {
            reviewer(x, reviewer, all);
        }
        for (int proposal = 0; proposal < x.count(2); proposal++) {
            proposal(x, proposal, all);
        }
        for (int mode = 0; mode <= 2; mode++) {
            int m = mode;
            all.append("\nmode ").append(m).append(": ").append(x.poolLeft(m)).append(' ').append(x.funded(m));
            for (int number = 1; number <= 16; number++) {
                all.append(' ').append(x.lineFor(m, number));
            }
        }
        return all.toString();
    }

    private static void panel(GrantAllocation x, int panel, StringBuilder all) {
        all.append("\npanel ").append(panel).append(": ").append(x.matchSum(panel)).append(' ').append(x.mostReviews(panel));
        all.append(' ').append(x.bestMatchSum(panel)).append(' ').append(x.bestSum(panel));
        for (int mode = 0; mode <= 2; mode++) {
            all.append(' ').append(x.left(mode, panel));
        }
    }

    private static void reviewer(GrantAllocation x, int reviewer, StringBuilder all) {
        all.append("\nreviewer ").append(reviewer).append(": ").append(x.loadOf(reviewer));
        all.append(' ').append(Check.answer(() -> x.leniency(reviewer)));
        for (int proposal = 0; proposal < x.count(2); proposal++) {
            int p = proposal;
            all.append(' ').append(x.match(reviewer, p)).append(x.isConflict(reviewer, p) ? "c" : "");
            all.append(Check.answer(() -> x.adjusted(reviewer, p)));
        }
    }

    private static void proposal(GrantAllocation x, int proposal, StringBuilder all) {
        all.append("\nproposal ").append(proposal).append(": ");
        all.append(Check.answer(() -> x.normalized(proposal))).append(' ').append(Check.answer(() -> x.rank(proposal)));
        all.append(' ').append(Check.answer(() -> x.disagreement(proposal)));
        for (int k = 0; k < 4; k++) {
            int index = k;
            all.append(' ').append(Check.answer(() -> x.reviewerOf(proposal, index)));
        }
        for (int mode = 0; mode <= 2; mode++) {
            all.append(' ').append(x.amount(mode, proposal));
        }
        for (int other = 0; other < x.count(2); other++) {
            int p = other;
            all.append(' ').append(Check.answer(() -> x.tieRound(proposal, p)));
        }
    }
}
