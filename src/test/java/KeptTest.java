/**
 * "What is refused, or found, changes nothing but status()": each refusal of each call, by all that an object
 * tells ahead of it and behind it.
 */
public final class KeptTest {
    private static final Due due = new Due();

    private interface Call {
        int on(DialTown x);
    }

    public static void main(String[] args) {
        rows();
        texts();
        towns();
        shops();
        walkers();
        asked();
        questions();
        due.end();
    }

    private static void rows() {
        kept("row of lane 3", Due.BAD, x -> x.row(0, 3, 1));
        kept("row of lane -1", Due.BAD, x -> x.row(0, -1, 1));
        kept("row of 41", Due.BAD, x -> x.row(0, 1, 41));
        kept("row of row 8", Due.BAD, x -> x.row(8, 1, 1));
        kept("row of fewer than none", Due.SIZE, x -> x.row(0, 1, -1));
        kept("row of fewer than none, missing", Due.SIZE, x -> x.row(5, 1, -1));
        kept("set in row 8", Due.BAD, x -> x.set(8, 0, 3));
        kept("set in a missing row", Due.NULL, x -> x.set(5, 0, 3));
        kept("set below 0", Due.PLACE, x -> x.set(0, -1, 3));
        kept("set beyond the end", Due.PLACE, x -> x.set(0, 3, 3));
        kept("copy from row 8", Due.BAD, x -> x.copy(8, 0, 0, 0, 1));
        kept("copy to row 8", Due.BAD, x -> x.copy(0, 0, 8, 0, 1));
        kept("copy from a missing row", Due.NULL, x -> x.copy(5, 0, 0, 0, 1));
        kept("copy to a missing row", Due.NULL, x -> x.copy(0, 0, 5, 0, 1));
        kept("copy of two lanes", Due.STORE, x -> x.copy(0, 0, 2, 0, 1));
        kept("copy beyond the first", Due.PLACE, x -> x.copy(0, 1, 1, 0, 3));
        kept("copy beyond the second", Due.PLACE, x -> x.copy(0, 0, 1, 1, 3));
        kept("copy from below 0", Due.PLACE, x -> x.copy(0, -1, 1, 0, 2));
        kept("copy to below 0", Due.PLACE, x -> x.copy(0, 0, 1, -1, 2));
        kept("copy of fewer than none", Due.PLACE, x -> x.copy(0, 2, 1, 2, -2));
        kept("drop of row 8", Due.BAD, x -> x.drop(8));
        kept("drop of row -1", Due.BAD, x -> x.drop(-1));
        kept("drop of a missing row", Due.NULL, x -> x.drop(5));
    }

    private static void texts() {
        kept("feed of none", Due.BAD, x -> x.feed(-1L, 0));
        kept("feed of 9", Due.BAD, x -> x.feed(-1L, 9));
        DialTown full = new DialTown();
        Due.feed(full, "tower 4 4 4;" + " ".repeat(384));
        due.is("feed where four have room", full.feed(-1L, 5), Due.FULL);
        due.is("none came", full.count(5), 396);
        due.is("the text stays", full.town(), 0);
    }

    private static void towns() {
        kept("season 0", Due.BAD, x -> x.season(0));
        kept("season 7", Due.BAD, x -> x.season(7));
        kept("lean 4 east", Due.BAD, x -> x.lean(4, 0));
        kept("lean -4 east", Due.BAD, x -> x.lean(-4, 0));
        kept("lean 4 north", Due.BAD, x -> x.lean(0, 4));
        kept("lean -4 north", Due.BAD, x -> x.lean(0, -4));
        kept("cloud in slot 73", Due.BAD, x -> x.cloud(73, 1));
        kept("cloud in slot -1", Due.BAD, x -> x.cloud(-1, 1));
        kept("cloud 2", Due.BAD, x -> x.cloud(0, 2));
        kept("cloud -1", Due.BAD, x -> x.cloud(36, -1));
        kept("draw of seed 0", Due.BAD, x -> x.draw(0, 50));
        kept("draw of seed 1000000", Due.BAD, x -> x.draw(1000000, 50));
        kept("draw of p 101", Due.BAD, x -> x.draw(1, 101));
        kept("draw of p -1", Due.BAD, x -> x.draw(1, -1));
        kept("image 2", Due.BAD, x -> x.image(2));
        kept("image -1", Due.BAD, x -> x.image(-1));
        kept("restore 2", Due.BAD, x -> x.restore(2));
        kept("restore of none", Due.STATE, x -> x.restore(1));
    }

    private static void shops() {
        kept("more of sort 5", Due.BAD, x -> x.more(5, 0, 1));
        kept("more of sort -1", Due.BAD, x -> x.more(-1, 0, 1));
        kept("more in cell 81", Due.BAD, x -> x.more(0, 81, 1));
        kept("more in cell -1", Due.BAD, x -> x.more(0, -1, 1));
        kept("more of rent 100", Due.BAD, x -> x.more(0, 0, 100));
        kept("more of rent -1", Due.BAD, x -> x.more(0, 0, -1));
        kept("more at the tower", Due.BAD, x -> x.more(0, 40, 1));
        kept("more at a wall", Due.BAD, x -> x.more(0, 10, 1));
        kept("more at a shop", Due.BAD, x -> x.more(0, 31, 1));
        keptWhenFull("more of a ninth", Due.FULL, x -> x.more(0, 0, 1));
        keptWhenFull("more of a ninth at a shop", Due.BAD, x -> x.more(0, 31, 1));
        DialTown none = Due.of("tower 4 4 4;");
        due.is("undo of none", none.undo(), Due.STATE);
        due.is("undo of none again", none.undo(), Due.STATE);
        due.is("one more", none.more(0, 0, 1), 0);
        due.is("undo of one", none.undo(), 0);
    }

    private static void walkers() {
        kept("soonest from cell 81", Due.BAD, x -> x.soonest(81, 0, 0));
        kept("soonest from slot 73", Due.BAD, x -> x.soonest(0, 73, 0));
        kept("soonest of no such shops", Due.BAD, x -> x.soonest(0, 0, 4));
        kept("soonest from the tower", Due.NONE, x -> x.soonest(40, 0, 0));
        kept("check from the tower", Due.BAD, x -> x.check(40, 0, 0, 0, 1, 0));
        kept("check by row 8", Due.BAD, x -> x.check(0, 0, 8, 0, 1, 0));
        kept("check of 41", Due.BAD, x -> x.check(0, 0, 0, 0, 41, 0));
        kept("check by a missing row", Due.NULL, x -> x.check(0, 0, 5, 0, 1, 0));
        kept("check beyond the end", Due.PLACE, x -> x.check(0, 0, 0, 0, 4, 0));
        kept("thief from cell 81", Due.BAD, x -> x.thief(81, 0, 0, 0));
        kept("thief to cell 81", Due.BAD, x -> x.thief(0, 0, 81, 0));
        kept("thief earlier", Due.BAD, x -> x.thief(0, 1, 0, 0));
        kept("thief from the tower", Due.NONE, x -> x.thief(40, 0, 0, 72));
        kept("longest of sort 5", Due.BAD, x -> x.longest(5, 0));
        kept("longest of what 2", Due.BAD, x -> x.longest(0, 2));
        kept("bills of slot 73", Due.BAD, x -> x.bills(73, 0));
        kept("bills of no such shops", Due.BAD, x -> x.bills(0, 4));
        kept("leans of shop 2", Due.BAD, x -> x.leans(2, 0, 0));
        kept("leans 4 east", Due.BAD, x -> x.leans(0, 4, 0));
        kept("leans 4 north", Due.BAD, x -> x.leans(0, 0, 4));
    }

    private static void asked() {
        kept("shop 2", Due.BAD, x -> x.shop(2, 0));
        kept("shop of what 5", Due.BAD, x -> x.shop(0, 5));
        kept("shadow of slot 73", Due.BAD, x -> x.shadow(73, 0));
        kept("shadow of cell 81", Due.BAD, x -> x.shadow(0, 81));
        kept("open of slot 73", Due.BAD, x -> x.open(73));
        kept("kind of shop 2", Due.BAD, x -> x.kind(2));
        kept("as of shop 2", Due.BAD, x -> x.as(2, 0));
        kept("as of kind 6", Due.BAD, x -> x.as(0, 6));
        kept("as of another kind", Due.KIND, x -> x.as(0, 4));
        kept("ask of shop 2", Due.BAD, x -> x.ask(2, 0));
        kept("ask of what 2", Due.BAD, x -> x.ask(0, 2));
        kept("trace 16", Due.NONE, x -> x.trace(16));
        kept("count 6", Due.BAD, x -> x.count(6));
    }

    /** What only asks changes nothing, either: a question by another season, lean or weather above all. */
    private static void questions() {
        kept("shop of a year", 1, x -> x.shop(0, 4) > 0 ? 1 : 0);
        kept("bills", 0, x -> x.bills(36, 3) & 1);
        kept("leans", 0, x -> x.leans(0, 3, 3) & 0);
        kept("longest", 0, x -> x.longest(4, 0) & 0);
        kept("soonest", 0, x -> x.soonest(0, 0, 3) & 0);
        kept("thief", 0, x -> x.thief(0, 0, 80, 72) & 0);
        kept("check", 0, x -> x.check(30, 0, 0, 0, 3, 0) & 0);
        kept("shadow", 0, x -> x.shadow(0, 0));
        kept("open", 0, x -> x.open(0) & 0);
        kept("fault", 2, DialTown::fault);
    }

    /** Rows 0 and 1 have three bytes, row 2 three ints; image 0 is kept, image 1 is not. */
    private static DialTown town() {
        DialTown x = Due.of("tower 4 4 4;wall 1 1;wall 8 8;shop dark 4 3 9;shop lamp 0 8 7;");
        x.image(0);
        Due.read(x, "tower 9");
        Due.rowOf(x, 0, 0, 1, 2, 3);
        Due.rowOf(x, 1, 0, 4, 0, 4);
        Due.rowOf(x, 2, 2, 3, 2, 1);
        x.season(2);
        x.lean(1, -1);
        x.cloud(36, 1);
        x.cloud(3, 1);
        Due.feed(x, "tower 4 4 ");
        x.ask(1, 1);
        return x;
    }

    private static void kept(String name, int answer, Call call) {
        isKept(name, town(), answer, call);
    }

    private static void keptWhenFull(String name, int answer, Call call) {
        DialTown x = town();
        for (int shop = 2; shop < 8; shop++) {
            x.more(shop % 5, 60 + shop, shop);
        }
        isKept(name, x, answer, call);
    }

    private static void isKept(String name, DialTown x, int answer, Call call) {
        String before = told(x);
        x.set(0, 9, 9);
        due.is(name, call.on(x), answer);
        boolean isOfARow = name.startsWith("check") && answer == 0;
        due.is(name + ": status", x.status(), isFinding(answer) ? -1000010 - answer : isOfARow ? 0 : 2);
        String after = told(x);
        due.is(name + " changed " + difference(before, after), before.equals(after) ? 1 : 0, 1);
        due.is(name + ": the other image", x.restore(1), Due.STATE);
        due.is(name + ": the image", x.restore(0), 1);
        due.is(name + ": shops of the image", x.count(1), 2);
        due.is(name + ": clouds of the image", x.count(3), 0);
        due.is(name + ": season of the image", x.count(4), 1);
        due.is(name + ": cell of the image", x.shop(0, 0), 31);
    }

    private static boolean isFinding(int answer) {
        return answer <= Due.NULL && answer >= Due.STORE;
    }

    private static String difference(String before, String after) {
        int at = 0;
        while (at < before.length() && at < after.length() && before.charAt(at) == after.charAt(at)) {
            at++;
        }
        return "from number " + before.substring(0, at).split(" ").length;
    }

    /** All that the object tells, but its status and its images. */
    private static String told(DialTown x) {
        StringBuilder told = new StringBuilder();
        for (int i = 0; i <= 7; i++) {
            add(told, x.count(i));
            add(told, x.trace(i));
        }
        add(told, x.fault());
        for (int slot = 0; slot <= 72; slot += 2) {
            add(told, x.open(slot));
        }
        for (int slot = 0; slot <= 72; slot += 12) {
            add(told, x.shadow(slot, 31));
        }
        for (int cell = 0; cell <= 80; cell++) {
            add(told, x.soonest(cell, 0, 0));
        }
        for (int shop = 0; shop < 2; shop++) {
            for (int what = 0; what <= 4; what++) {
                add(told, x.shop(shop, what));
            }
            add(told, x.kind(shop));
        }
        add(told, x.leans(0, 0, 0));
        add(told, x.bills(18, 1));
        return told.append(items(x)).toString();
    }

    /** Where the ways of three rows cannot go: each item by a walk of one step. */
    private static String items(DialTown x) {
        StringBuilder told = new StringBuilder();
        for (int row = 0; row <= 2; row++) {
            for (int i = 0; i <= 2; i++) {
                add(told, Due.wayAt(x, row, i));
            }
        }
        return told.toString();
    }

    private static void add(StringBuilder told, int answer) {
        told.append(answer).append(' ');
    }
}
