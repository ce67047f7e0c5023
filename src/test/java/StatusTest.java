/** Promise 31: the finding of the latest call with a row, or as(), that was not BAD, STATE, FULL. */
public final class StatusTest {
    private static final Due due = new Due();

    /** A call; of the towns below row 0 has 3 bytes, row 1 has 3 ints, row 2 is missing, shop 0 is a dark one. */
    private interface Call {
        int on(DialTown x);
    }

    public static void main(String[] args) {
        noneAtFirst();
        findings();
        noFindings();
        badCalls();
        stateAndFull();
        callsWithoutARow();
        tellsItAgain();
        due.end();
    }

    private static DialTown town() {
        DialTown x = Due.of("tower 4 4 4; wall 8 8; shop dark 4 3 1;");
        x.row(0, 0, 3);
        x.row(1, 2, 3);
        return x;
    }

    /** "0: ... there was none". */
    private static void noneAtFirst() {
        due.is("a new object", new DialTown().status(), 0);
        due.is("a town without rows", Due.of("tower 4 4 4;").status(), 0);
        DialTown x = new DialTown();
        x.row(8, 0, 0);
        x.set(-1, 0, 0);
        x.check(0, 0, 0, 0, 0, 0);
        x.as(0, 0);
        due.is("after refused calls alone", x.status(), 0);
    }

    private static void findings() {
        found("row of fewer than none", 4, x -> x.row(0, 0, -1));
        found("set in a missing row", 1, x -> x.set(2, 0, 0));
        found("set beyond the end", 2, x -> x.set(0, 3, 0));
        found("set below 0", 2, x -> x.set(0, -1, 0));
        found("copy from a missing row", 1, x -> x.copy(2, 0, 0, 0, 1));
        found("copy to a missing row", 1, x -> x.copy(0, 0, 2, 0, 1));
        found("copy of two lanes", 5, x -> x.copy(0, 0, 1, 0, 1));
        found("copy beyond an end", 2, x -> x.copy(0, 0, 0, 3, 1));
        found("drop of a missing row", 1, x -> x.drop(2));
        found("check by a missing row", 1, x -> x.check(0, 0, 2, 0, 1, 0));
        found("check beyond an end", 2, x -> x.check(0, 0, 0, 0, 4, 0));
        found("as of another kind", 3, x -> x.as(0, 2));
    }

    private static void found(String name, int finding, Call call) {
        DialTown x = town();
        due.is(name, call.on(x), -1000010 - finding);
        due.is(name + ": status", x.status(), finding);
        x.copy(0, 0, 0, 0, 0);
        due.is(name + ": no finding after it", x.status(), 0);
        x.set(0, 9, 0);
        call.on(x);
        due.is(name + ": status after another finding", x.status(), finding);
    }

    /** "0: it had none": of each of the calls. */
    private static void noFindings() {
        fine("row", 3, x -> x.row(0, 0, 3));
        fine("row of none", 0, x -> x.row(0, 0, 0));
        fine("set", 5, x -> x.set(0, 0, 5));
        fine("set of an item like a finding", Due.PLACE, x -> x.set(1, 0, Due.PLACE));
        fine("copy", 3, x -> x.copy(0, 0, 0, 0, 3));
        fine("drop", 3, x -> x.drop(0));
        fine("check", 0, x -> x.check(30, 0, 0, 0, 3, 0));
        fine("check with a step that cannot be", 1, x -> x.check(0, 0, 0, 0, 3, 0));
        fine("check of shops", 0, x -> x.check(30, 0, 0, 0, 3, 1));
        fine("as", 0, x -> x.as(0, 1));
    }

    private static void fine(String name, int answer, Call call) {
        DialTown x = town();
        x.set(0, 3, 0);
        due.is(name + ": a finding ahead of it", x.status(), 2);
        due.is(name, call.on(x), answer);
        due.is(name + ": status", x.status(), 0);
    }

    /** What was BAD is not the latest. */
    private static void badCalls() {
        passes("row 8", Due.BAD, x -> x.row(8, 0, 1));
        passes("row of lane 3", Due.BAD, x -> x.row(0, 3, 1));
        passes("row of 41", Due.BAD, x -> x.row(0, 0, 41));
        passes("set in row 8", Due.BAD, x -> x.set(8, 0, 1));
        passes("copy from row 8", Due.BAD, x -> x.copy(8, 0, 0, 0, 0));
        passes("copy to row 8", Due.BAD, x -> x.copy(0, 0, 8, 0, 0));
        passes("drop of row 8", Due.BAD, x -> x.drop(8));
        passes("check by row 8", Due.BAD, x -> x.check(0, 0, 8, 0, 0, 0));
        passes("check at the tower", Due.BAD, x -> x.check(40, 0, 0, 0, 0, 0));
        passes("check of 41", Due.BAD, x -> x.check(0, 0, 0, 0, 41, 0));
        passes("as of shop 1", Due.BAD, x -> x.as(1, 0));
        passes("as of kind 6", Due.BAD, x -> x.as(0, 6));
    }

    /** What was STATE or FULL is not the latest. */
    private static void stateAndFull() {
        DialTown none = new DialTown();
        none.set(0, 0, 0);
        due.is("check without a town", none.check(0, 0, 0, 0, 0, 0), Due.STATE);
        due.is("as without a town", none.as(0, 0), Due.BAD);
        due.is("the set ahead of them is the latest", none.status(), 1);
        none.row(0, 0, 0);
        none.check(0, 0, 1, 0, 0, 0);
        due.is("the row ahead of it is the latest", none.status(), 0);
    }

    /** They name no row, so whatever they answer it is not theirs. */
    private static void callsWithoutARow() {
        passes("feed", 1, x -> x.feed(' ', 1));
        passes("feed of 9", Due.BAD, x -> x.feed(' ', 9));
        passes("town of nothing", -1000100, DialTown::town);
        passes("town", 0, x -> Due.read(x, "tower 4 4 4;"));
        passes("fault", 0, DialTown::fault);
        passes("season", 1, x -> x.season(2));
        passes("lean", 1, x -> x.lean(1, 1));
        passes("cloud", 0, x -> x.cloud(0, 1));
        passes("draw", 73, x -> x.draw(1, 100));
        passes("more", 1, x -> x.more(0, 0, 0));
        passes("undo", 0, DialTown::undo);
        passes("shadow", 1, x -> x.shadow(36, 40));
        passes("open", 1, x -> x.open(36));
        passes("shop", 31, x -> x.shop(0, 0));
        passes("soonest", 0, x -> x.soonest(0, 0, 0));
        passes("soonest of none", Due.NONE, x -> x.soonest(40, 0, 0));
        passes("thief", 0, x -> x.thief(0, 0, 0, 0));
        passes("longest", 0, x -> x.longest(1, 0));
        passes("bills", 126, x -> x.bills(36, 1));
        passes("leans", 0, x -> x.leans(0, 0, 0));
        passes("image", 1, x -> x.image(0));
        passes("restore", Due.STATE, x -> x.restore(0));
        passes("kind", 1, x -> x.kind(0));
        passes("ask", 32, x -> x.ask(0, 0));
        passes("trace", Due.NONE, x -> x.trace(0));
        passes("count", 2, x -> x.count(0));
        DialTown x = town();
        x.as(0, 2);
        x.image(0);
        x.restore(0);
        due.is("restore of an image", x.status(), 3);
    }

    private static void passes(String name, int answer, Call call) {
        DialTown x = town();
        x.copy(0, 0, 1, 0, 0);
        due.is(name, call.on(x), answer);
        due.is(name + ": the finding ahead of it stays", x.status(), 5);
        DialTown y = town();
        call.on(y);
        due.is(name + ": no finding comes", y.status(), 0);
    }

    private static void tellsItAgain() {
        DialTown x = town();
        x.drop(2);
        due.is("status", x.status(), 1);
        due.is("status again", x.status(), 1);
    }
}
