import java.util.ArrayList;
import java.util.List;
import java.util.NoSuchElementException;

/** The boundary cases of EXCEPTIONS: which one of several is thrown, and that a refused call changes nothing. */
public final class ExceptionEdgesTest {
    private static final Check CHECK = new Check();
    private static final Class<IndexOutOfBoundsException> INDEX = IndexOutOfBoundsException.class;
    private static final Class<IllegalArgumentException> ARGUMENT = IllegalArgumentException.class;
    private static final Class<IllegalStateException> STATE = IllegalStateException.class;
    private static final Class<NoSuchElementException> ELEMENT = NoSuchElementException.class;

    private interface Call {
        Object on(GrantAllocation x);
    }

    private record Refused(String name, Class<? extends RuntimeException> due, Call call) {
    }

    public static void main(String[] args) {
        severalApply();
        changesNothing();
        refusedTexts();
        CHECK.end();
    }

    /**
     * Panel 0: reviewers 0 to 2, of capacity 2, and proposals 0 to 3; panel 1: reviewer 3 and proposal 4.
     * Proposal 0 has reviews of 1 and 2 (an appeal of 0 was granted), proposal 1 one of 0 with a score,
     * proposal 2 one of 0 without. Reviewer 2 has the institution of proposal 3.
     */
    private static GrantAllocation busy() {
        GrantAllocation x = Check.loaded("panel 50;panel 20;pool 7;line 10;reviews 2;limit 5;"
                + "reviewer 0 1 2 topics 0;reviewer 0 1 2 topics 1;reviewer 0 4 2 topics 2;reviewer 1 1 2 topics 3;"
                + "proposal 0 2 0 30;proposal 0 2 1 40 least 10;proposal 0 2 2 5;proposal 0 4 3 6;proposal 1 2 3 21;");
        Check.score(x, 0, 0, 10);
        Check.score(x, 1, 0, 90);
        x.appeal(0, 0);
        Check.score(x, 2, 0, 40);
        Check.score(x, 0, 1, 60);
        x.assign(0, 2);
        x.setLine(15);
        return x;
    }

    private static void severalApply() {
        CHECK.sentence("EXCEPTIONS: If several exceptions apply to a call, the one that is named first in its throws clause"
                + " is thrown");
        GrantAllocation x = busy();
        CHECK.fails("declare: no reviewer, before a review", INDEX, () -> x.declare(4, 0));
        CHECK.fails("declare: no proposal, before a review", INDEX, () -> x.declare(1, 5));
        CHECK.fails("assign: no reviewer, before anything", INDEX, () -> x.assign(4, 0));
        CHECK.fails("assign: no proposal, before anything", INDEX, () -> x.assign(0, 5));
        CHECK.fails("assign: a conflict, before a full proposal and a full reviewer", ARGUMENT, () -> x.assign(0, 0));
        CHECK.fails("assign: another panel, before a full proposal", ARGUMENT, () -> x.assign(3, 0));
        CHECK.fails("assign: another panel, before a full reviewer", ARGUMENT, () -> x.assign(0, 4));
        CHECK.fails("assign: a review and a full proposal", STATE, () -> x.assign(1, 0));
        CHECK.fails("assign: a review and a full reviewer", STATE, () -> x.assign(0, 1));
        CHECK.fails("unassign: no reviewer, before no review", INDEX, () -> x.unassign(4, 3));
        CHECK.fails("unassign: no proposal, before no review", INDEX, () -> x.unassign(3, 5));
        CHECK.fails("setScore: no reviewer, before a wrong score and no review", INDEX, () -> x.setScore(4, 3, 0));
        CHECK.fails("setScore: no proposal, before a wrong score and no review", INDEX, () -> x.setScore(3, 5, 101));
        CHECK.fails("setScore: a wrong score, before no review", ARGUMENT, () -> x.setScore(3, 3, 0));
        CHECK.fails("setScore: a wrong score, before no review", ARGUMENT, () -> x.setScore(3, 3, -2));
        CHECK.fails("adjusted: no reviewer, before no review", INDEX, () -> x.adjusted(4, 3));
        CHECK.fails("adjusted: no proposal, before no review", INDEX, () -> x.adjusted(3, 5));
        CHECK.fails("normalized: no proposal, before no score", INDEX, () -> x.normalized(5));
        CHECK.fails("leniency: no reviewer, before no score", INDEX, () -> x.leniency(4));
        CHECK.fails("disagreement: no proposal, before no scores", INDEX, () -> x.disagreement(5));
        CHECK.fails("rank: no proposal, before none that is ranked", INDEX, () -> x.rank(5));
        CHECK.fails("tieRound: no proposal, before the same", INDEX, () -> x.tieRound(5, 5));
        CHECK.fails("tieRound: no proposal a, before one that is not ranked", INDEX, () -> x.tieRound(5, 3));
        CHECK.fails("tieRound: no proposal b, before one that is not ranked", INDEX, () -> x.tieRound(3, 5));
        CHECK.fails("tieRound: the same, before one that is not ranked", ARGUMENT, () -> x.tieRound(3, 3));
        CHECK.fails("amount: a wrong mode, before no proposal", ARGUMENT, () -> x.amount(3, 5));
        CHECK.fails("amount: a wrong mode, before no proposal", ARGUMENT, () -> x.amount(-1, -1));
        CHECK.fails("left: a wrong mode, before no panel", ARGUMENT, () -> x.left(3, 2));
        CHECK.fails("left: a wrong mode, before no panel", ARGUMENT, () -> x.left(-1, -1));
        CHECK.fails("appeal: no reviewer, before no review and a granted appeal", INDEX, () -> x.appeal(4, 0));
        CHECK.fails("appeal: no proposal, before no review", INDEX, () -> x.appeal(0, 5));
        CHECK.fails("appeal: no review, before a granted appeal", ELEMENT, () -> x.appeal(0, 0));
        CHECK.fails("appeal: no review, before no other scores", ELEMENT, () -> x.appeal(1, 1));
        CHECK.fails("appeal: no score, before no other scores", ELEMENT, () -> x.appeal(0, 2));
        x.setScore(2, 0, -1);
        CHECK.fails("appeal: no score, before a granted appeal", ELEMENT, () -> x.appeal(2, 0));
        CHECK.fails("appeal: no other scores, and a granted appeal", STATE, () -> x.appeal(1, 0));
    }

    /** A refused call of each method for each reason. */
    private static List<Refused> refusedCalls() {
        List<Refused> all = new ArrayList<>();
        refusedReviews(all);
        refusedQuestions(all);
        refusedFunding(all);
        return all;
    }

    private static void refusedReviews(List<Refused> all) {
        all.add(new Refused("declare, no reviewer", INDEX, x -> x.declare(4, 0)));
        all.add(new Refused("declare, no proposal", INDEX, x -> x.declare(0, -1)));
        all.add(new Refused("declare, a review", STATE, x -> x.declare(1, 0)));
        all.add(new Refused("assign, no reviewer", INDEX, x -> x.assign(-1, 0)));
        all.add(new Refused("assign, no proposal", INDEX, x -> x.assign(0, 5)));
        all.add(new Refused("assign, another panel", ARGUMENT, x -> x.assign(3, 3)));
        all.add(new Refused("assign, same institution", ARGUMENT, x -> x.assign(2, 3)));
        all.add(new Refused("assign, declared conflict", ARGUMENT, x -> x.assign(0, 0)));
        all.add(new Refused("assign, a review", STATE, x -> x.assign(0, 2)));
        all.add(new Refused("assign, a full reviewer", STATE, x -> x.assign(0, 3)));
        all.add(new Refused("unassign, no reviewer", INDEX, x -> x.unassign(4, 0)));
        all.add(new Refused("unassign, no proposal", INDEX, x -> x.unassign(0, 5)));
        all.add(new Refused("unassign, no review", ELEMENT, x -> x.unassign(1, 1)));
        all.add(new Refused("assignAll, no panel", INDEX, x -> x.assignAll(2)));
        all.add(new Refused("assignAll, no panel", INDEX, x -> x.assignAll(-1)));
        all.add(new Refused("setScore, no reviewer", INDEX, x -> x.setScore(4, 0, 5)));
        all.add(new Refused("setScore, no proposal", INDEX, x -> x.setScore(0, 5, 5)));
        all.add(new Refused("setScore, 0", ARGUMENT, x -> x.setScore(1, 0, 0)));
        all.add(new Refused("setScore, 101", ARGUMENT, x -> x.setScore(1, 0, 101)));
        all.add(new Refused("setScore, no review", ELEMENT, x -> x.setScore(1, 1, 5)));
        all.add(new Refused("appeal, no reviewer", INDEX, x -> x.appeal(4, 0)));
        all.add(new Refused("appeal, no proposal", INDEX, x -> x.appeal(0, 5)));
        all.add(new Refused("appeal, no review", ELEMENT, x -> x.appeal(1, 1)));
        all.add(new Refused("appeal, no score", ELEMENT, x -> x.appeal(0, 2)));
        all.add(new Refused("appeal, no other scores", STATE, x -> x.appeal(0, 1)));
        all.add(new Refused("appeal, granted before", STATE, x -> x.appeal(1, 0)));
    }

    private static void refusedQuestions(List<Refused> all) {
        all.add(new Refused("append", STATE, x -> x.append(1, 2, 3, 4, 5)));
        all.add(new Refused("truncate, negative", INDEX, x -> x.truncate(-1)));
        all.add(new Refused("truncate, greater", INDEX, x -> x.truncate(801)));
        all.add(new Refused("count", ARGUMENT, x -> x.count(7)));
        all.add(new Refused("isConflict", INDEX, x -> x.isConflict(4, 0)));
        all.add(new Refused("match", INDEX, x -> x.match(0, 5)));
        all.add(new Refused("reviewerOf, no proposal", INDEX, x -> x.reviewerOf(5, 0)));
        all.add(new Refused("reviewerOf, no index", INDEX, x -> x.reviewerOf(0, 2)));
        all.add(new Refused("loadOf", INDEX, x -> x.loadOf(4)));
        all.add(new Refused("matchSum", INDEX, x -> x.matchSum(2)));
        all.add(new Refused("mostReviews", INDEX, x -> x.mostReviews(2)));
        all.add(new Refused("bestMatchSum", INDEX, x -> x.bestMatchSum(2)));
        all.add(new Refused("adjusted", ELEMENT, x -> x.adjusted(0, 2)));
        all.add(new Refused("normalized", ELEMENT, x -> x.normalized(2)));
        all.add(new Refused("leniency", ELEMENT, x -> x.leniency(3)));
        all.add(new Refused("disagreement", ELEMENT, x -> x.disagreement(1)));
        all.add(new Refused("rank", ELEMENT, x -> x.rank(2)));
        all.add(new Refused("ranked, no panel", INDEX, x -> x.ranked(2, 0)));
        all.add(new Refused("ranked, no rank", INDEX, x -> x.ranked(-1, 2)));
        all.add(new Refused("tieRound, no proposal", INDEX, x -> x.tieRound(0, 5)));
        all.add(new Refused("tieRound, the same", ARGUMENT, x -> x.tieRound(0, 0)));
        all.add(new Refused("tieRound, not ranked", ELEMENT, x -> x.tieRound(0, 2)));
    }

    private static void refusedFunding(List<Refused> all) {
        all.add(new Refused("setLine, negative", ARGUMENT, x -> x.setLine(-1)));
        all.add(new Refused("setLine, greater", ARGUMENT, x -> x.setLine(100001)));
        all.add(new Refused("amount, no mode", ARGUMENT, x -> x.amount(3, 0)));
        all.add(new Refused("amount, no proposal", INDEX, x -> x.amount(0, 5)));
        all.add(new Refused("left, no mode", ARGUMENT, x -> x.left(3, 0)));
        all.add(new Refused("left, no panel", INDEX, x -> x.left(0, 2)));
        all.add(new Refused("poolLeft", ARGUMENT, x -> x.poolLeft(3)));
        all.add(new Refused("funded", ARGUMENT, x -> x.funded(3)));
        all.add(new Refused("bestSum", INDEX, x -> x.bestSum(2)));
        all.add(new Refused("lineFor, no mode", ARGUMENT, x -> x.lineFor(3, 1)));
        all.add(new Refused("lineFor, no number", ARGUMENT, x -> x.lineFor(0, 17)));
    }

    /** A full buffer that holds a panel and a line, so that append is refused, too. */
    private static GrantAllocation busyWithText() {
        GrantAllocation x = busy();
        Check.type(x, "panel 321;line 654;" + " ".repeat(781));
        return x;
    }

    private static void changesNothing() {
        CHECK.sentence("EXCEPTIONS: A call that throws an exception changes nothing");
        String before = Snapshot.of(busyWithText());
        for (Refused refused : refusedCalls()) {
            GrantAllocation x = busyWithText();
            CHECK.fails(refused.name, refused.due, () -> refused.call.on(x));
            CHECK.same(refused.name + ": everything stays", Snapshot.of(x), before);
            CHECK.same(refused.name + ": eleven changes, of which ten can be undone", x.undo(), 9);
            CHECK.same(refused.name + ": the line was set by the last one", x.setLine(15), 10);
            CHECK.same(refused.name + ": everything is back", Snapshot.of(x), before);
            CHECK.same(refused.name + ": the text's length stays", x.truncate(800), 800);
            CHECK.same(refused.name + ": the text stays", x.load(), 0);
            CHECK.same(refused.name + ": the text's panel and line", x.left(0, 0) * 1000 + x.setLine(0), 321654);
        }
        GrantAllocation x = busyWithText();
        for (int n = 0; n < 10; n++) {
            x.undo();
        }
        String undone = Snapshot.of(x);
        CHECK.fails("undo", STATE, () -> x.undo());
        CHECK.same("undo: everything stays", Snapshot.of(x), undone);
    }

    private static void refusedTexts() {
        CHECK.sentence("EXCEPTIONS: unless its comment says otherwise: load sets the error and empties the buffer");
        GrantAllocation x = busy();
        String before = Snapshot.withoutError(x);
        Check.type(x, "panel 1;panel 2;line x;");
        CHECK.fails("load", ARGUMENT, () -> x.load());
        CHECK.same("the error", x.errorCode() * 100 + x.errorPosition(), 121);
        CHECK.same("everything else stays", Snapshot.withoutError(x), before);
        CHECK.fails("the buffer is empty", INDEX, () -> x.truncate(1));
        CHECK.same("the changes stay", x.undo(), 9);
    }
}
