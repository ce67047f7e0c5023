/**
 * "Refusals are answers, the first of these that fits, but as told: BAD, STATE, FULL, then FINDINGS": for each
 * two that fit one call, which of them comes.
 */
public final class OrderTest {
    private static final String TOWN = "tower 4 4 4;wall 0 0;shop dark 4 3 1;shop lamp 0 8 1;";
    private static final Due due = new Due();

    public static void main(String[] args) {
        rowsBadAheadOfFindings();
        rowsOneFindingAheadOfAnother();
        feedBadAheadOfFull();
        stateAheadOfBad();
        badAheadOfState();
        noTownIsBad();
        moreBadAheadOfFull();
        noneBehindBad();
        checkStateAheadOfFindings();
        checkBadAheadOfNull();
        checkBadAheadOfPlace();
        checkNullAheadOfPlace();
        checkPlaceAheadOfAStep();
        asBadAheadOfKind();
        textsFirstTokenAheadOfLeast();
        due.end();
    }

    private static DialTown town() {
        DialTown x = Due.of(TOWN);
        x.row(0, 0, 3);
        x.row(1, 1, 3);
        return x;
    }

    private static void rowsBadAheadOfFindings() {
        DialTown x = town();
        due.is("row: ROW and SIZE", x.row(8, 0, -1), Due.BAD);
        due.is("row: ROW below 0 and SIZE", x.row(-1, 0, -1), Due.BAD);
        due.is("row: LANE and SIZE", x.row(0, 3, -1), Due.BAD);
        due.is("row: LANE below 0 and SIZE", x.row(0, -1, -1), Due.BAD);
        due.is("set: ROW and PLACE", x.set(8, -1, 0), Due.BAD);
        due.is("copy: first ROW and NULL", x.copy(8, 0, 2, 0, 1), Due.BAD);
        due.is("copy: NULL and second ROW", x.copy(2, 0, 8, 0, 1), Due.BAD);
        due.is("copy: first ROW and PLACE", x.copy(-1, 0, 0, 3, 1), Due.BAD);
        due.is("copy: PLACE and second ROW", x.copy(0, 3, -1, 0, 1), Due.BAD);
        due.is("none of them has a finding", x.status(), 0);
    }

    /** "of several the first in time", as they are told: NULL; STORE; PLACE. */
    private static void rowsOneFindingAheadOfAnother() {
        DialTown x = town();
        due.is("set: NULL and PLACE", x.set(2, -1, 0), Due.NULL);
        due.is("set: NULL and PLACE at the end", x.set(2, 0, 0), Due.NULL);
        due.is("copy: first NULL and PLACE", x.copy(2, -1, 0, 0, 1), Due.NULL);
        due.is("copy: second NULL and PLACE", x.copy(0, -1, 2, 0, 1), Due.NULL);
        due.is("copy: first NULL and PLACE of the second", x.copy(2, 0, 0, 9, 1), Due.NULL);
        due.is("copy: second NULL and PLACE of both", x.copy(0, 9, 2, 9, -1), Due.NULL);
        due.is("copy: both NULL and PLACE", x.copy(2, -1, 3, -1, -1), Due.NULL);
        due.is("copy: STORE and PLACE i", x.copy(0, -1, 1, 0, 1), Due.STORE);
        due.is("copy: STORE and PLACE j", x.copy(0, 0, 1, -1, 1), Due.STORE);
        due.is("copy: STORE and PLACE n", x.copy(0, 0, 1, 0, -1), Due.STORE);
        due.is("copy: STORE and PLACE beyond an end", x.copy(0, 0, 1, 0, 4), Due.STORE);
        due.is("the finding that came", x.status(), 5);
        due.is("set: NULL", x.set(2, 99, 0), Due.NULL);
        due.is("the finding that came", x.status(), 1);
    }

    /** "BAD: n; FULL: none comes." */
    private static void feedBadAheadOfFull() {
        DialTown x = new DialTown();
        Due.feed(x, " ".repeat(400));
        due.is("FULL alone", x.feed(0, 1), Due.FULL);
        due.is("FULL alone", x.feed(0, 8), Due.FULL);
        due.is("n and FULL", x.feed(0, 9), Due.BAD);
        due.is("n and FULL", x.feed(0, 0), Due.BAD);
        due.is("n and FULL", x.feed(0, -1), Due.BAD);
    }

    /** "STATE: no TOWN (ahead of BAD)": each number that is not as told, alone and together. */
    private static void stateAheadOfBad() {
        DialTown x = new DialTown();
        int[] bad = {Integer.MIN_VALUE, -5, -1, 0, 1, 9, 101, 1000000, Integer.MAX_VALUE};
        for (int a : bad) {
            due.is("season", x.season(a), Due.STATE);
            due.is("lean", x.lean(a, 0), Due.STATE);
            due.is("lean", x.lean(0, a), Due.STATE);
            due.is("cloud", x.cloud(a, 0), Due.STATE);
            due.is("cloud", x.cloud(0, a), Due.STATE);
            due.is("draw", x.draw(a, 1), Due.STATE);
            due.is("draw", x.draw(1, a), Due.STATE);
            due.is("more", x.more(a, 0, 0), Due.STATE);
            due.is("more", x.more(0, a, 0), Due.STATE);
            due.is("more", x.more(0, 0, a), Due.STATE);
            due.is("shadow", x.shadow(a, 0), Due.STATE);
            due.is("shadow", x.shadow(0, a), Due.STATE);
            due.is("open", x.open(a), Due.STATE);
            due.is("soonest", x.soonest(a, 0, 0), Due.STATE);
            due.is("soonest", x.soonest(0, a, 0), Due.STATE);
            due.is("soonest", x.soonest(0, 0, a), Due.STATE);
            due.is("thief", x.thief(a, 0, 0, 0), Due.STATE);
            due.is("thief", x.thief(0, a, 0, 0), Due.STATE);
            due.is("thief", x.thief(0, 0, a, 0), Due.STATE);
            due.is("thief", x.thief(0, 0, 0, a), Due.STATE);
            due.is("longest", x.longest(a, 0), Due.STATE);
            due.is("longest", x.longest(0, a), Due.STATE);
            due.is("bills", x.bills(a, 0), Due.STATE);
            due.is("bills", x.bills(0, a), Due.STATE);
        }
        DialTown y = new DialTown();
        for (int a : bad) {
            due.is("check", y.check(a, 0, 0, 0, 0, 0), Due.STATE);
            due.is("check", y.check(0, a, 0, 0, 0, 0), Due.STATE);
            due.is("check", y.check(0, 0, a, 0, 0, 0), Due.STATE);
            due.is("check", y.check(0, 0, 0, a, 0, 0), Due.STATE);
            due.is("check", y.check(0, 0, 0, 0, a, 0), Due.STATE);
            due.is("check", y.check(0, 0, 0, 0, 0, a), Due.STATE);
            due.is("all", y.check(a, a, a, a, a, a), Due.STATE);
            due.is("all", y.thief(a, a, a, a), Due.STATE);
            due.is("all", y.more(a, a, a), Due.STATE);
            due.is("all", y.soonest(a, a, a), Due.STATE);
        }
    }

    /** Where the document does not say "ahead of BAD", BAD comes ahead of STATE. */
    private static void badAheadOfState() {
        DialTown none = new DialTown();
        for (int k : new int[] {-1, 2, Integer.MIN_VALUE, Integer.MAX_VALUE}) {
            due.is("image " + k + " without a town", none.image(k), Due.BAD);
            due.is("restore " + k + ", none was kept", none.restore(k), Due.BAD);
        }
        for (int k = 0; k <= 1; k++) {
            due.is("image " + k + " without a town", none.image(k), Due.STATE);
            due.is("restore " + k + ", none was kept", none.restore(k), Due.STATE);
        }
    }

    /** These tell BAD alone: without a town there is no such shop. */
    private static void noTownIsBad() {
        DialTown x = new DialTown();
        for (int shop : new int[] {-1, 0, 7, 8}) {
            due.is("shop", x.shop(shop, 0), Due.BAD);
            due.is("leans", x.leans(shop, 0, 0), Due.BAD);
            due.is("kind", x.kind(shop), Due.BAD);
            due.is("as", x.as(shop, 0), Due.BAD);
            due.is("ask", x.ask(shop, 0), Due.BAD);
        }
    }

    /** "BAD: also a CELL that is not free; FULL: 8". */
    private static void moreBadAheadOfFull() {
        DialTown x = Due.of(TOWN);
        for (int cell = 10; cell < 16; cell++) {
            x.more(0, cell, 0);
        }
        due.is("FULL alone", x.more(0, 20, 0), Due.FULL);
        due.is("sort and FULL", x.more(5, 20, 0), Due.BAD);
        due.is("sort below 0 and FULL", x.more(-1, 20, 0), Due.BAD);
        due.is("cell and FULL", x.more(0, 81, 0), Due.BAD);
        due.is("cell below 0 and FULL", x.more(0, -1, 0), Due.BAD);
        due.is("rent and FULL", x.more(0, 20, 100), Due.BAD);
        due.is("rent below 0 and FULL", x.more(0, 20, -1), Due.BAD);
        due.is("a shop there and FULL", x.more(0, 10, 0), Due.BAD);
        due.is("a told shop there and FULL", x.more(0, 31, 0), Due.BAD);
        due.is("a wall there and FULL", x.more(0, 0, 0), Due.BAD);
        due.is("the tower there and FULL", x.more(0, 40, 0), Due.BAD);
    }

    /** NONE is no refusal: it comes where all numbers are as told. */
    private static void noneBehindBad() {
        DialTown x = town();
        for (int cell : new int[] {40, 0}) {
            due.is("soonest: SLOT", x.soonest(cell, 73, 0), Due.BAD);
            due.is("soonest: SLOT below 0", x.soonest(cell, -1, 0), Due.BAD);
            due.is("soonest: SHOPS", x.soonest(cell, 0, 4), Due.BAD);
            due.is("soonest: SHOPS below 0", x.soonest(cell, 0, -1), Due.BAD);
            due.is("soonest", x.soonest(cell, 0, 3), Due.NONE);
            due.is("thief: other CELL", x.thief(cell, 0, 81, 5), Due.BAD);
            due.is("thief: other CELL", x.thief(81, 0, cell, 5), Due.BAD);
            due.is("thief: SLOT less", x.thief(cell, 6, 1, 5), Due.BAD);
            due.is("thief: SLOT less", x.thief(1, 6, cell, 5), Due.BAD);
            due.is("thief: SLOT", x.thief(cell, 6, 1, 73), Due.BAD);
            due.is("thief: SLOT below 0", x.thief(1, -1, cell, 5), Due.BAD);
            due.is("thief", x.thief(cell, 6, 1, 72), Due.NONE);
        }
        due.is("thief: SLOT less, too far", x.thief(80, 6, 1, 5), Due.BAD);
        due.is("soonest: SHOPS, too late", x.soonest(80, 72, 7), Due.BAD);
    }

    private static void checkStateAheadOfFindings() {
        DialTown x = new DialTown();
        due.is("STATE and NULL", x.check(1, 0, 0, 0, 1, 0), Due.STATE);
        x.row(0, 0, 1);
        due.is("STATE and PLACE", x.check(1, 0, 0, 0, 2, 0), Due.STATE);
        due.is("STATE alone", x.check(1, 0, 0, 0, 1, 0), Due.STATE);
        due.is("none of them has a finding", x.status(), 0);
    }

    /** Row 2 is missing. */
    private static void checkBadAheadOfNull() {
        DialTown x = town();
        due.is("NULL alone", x.check(1, 0, 2, 0, 1, 0), Due.NULL);
        due.is("CELL and NULL", x.check(81, 0, 2, 0, 1, 0), Due.BAD);
        due.is("the tower and NULL", x.check(40, 0, 2, 0, 1, 0), Due.BAD);
        due.is("a wall and NULL", x.check(0, 0, 2, 0, 1, 0), Due.BAD);
        due.is("SLOT and NULL", x.check(1, 73, 2, 0, 0, 0), Due.BAD);
        due.is("SLOT below 0 and NULL", x.check(1, -1, 2, 0, 1, 0), Due.BAD);
        due.is("SLOT with n and NULL", x.check(1, 72, 2, 0, 1, 0), Due.BAD);
        due.is("n and NULL", x.check(1, 0, 2, 0, 41, 0), Due.BAD);
        due.is("n below 0 and NULL", x.check(1, 0, 2, 0, -1, 0), Due.BAD);
        due.is("what and NULL", x.check(1, 0, 2, 0, 1, 2), Due.BAD);
        due.is("what below 0 and NULL", x.check(1, 0, 2, 0, 1, -1), Due.BAD);
        due.is("the finding ahead of them", x.status(), 1);
    }

    /** Row 0 has three items. */
    private static void checkBadAheadOfPlace() {
        DialTown x = town();
        due.is("PLACE alone", x.check(1, 0, 0, 0, 4, 0), Due.PLACE);
        due.is("CELL and PLACE", x.check(81, 0, 0, 0, 4, 0), Due.BAD);
        due.is("the tower and PLACE", x.check(40, 0, 0, 0, 4, 0), Due.BAD);
        due.is("a wall and PLACE", x.check(0, 0, 0, 0, 4, 0), Due.BAD);
        due.is("SLOT and PLACE", x.check(1, -1, 0, 0, 4, 0), Due.BAD);
        due.is("SLOT with n and PLACE", x.check(1, 69, 0, 0, 4, 0), Due.BAD);
        due.is("ROW and PLACE", x.check(1, 0, 8, 0, 4, 0), Due.BAD);
        due.is("n and PLACE", x.check(1, 0, 0, 0, 41, 0), Due.BAD);
        due.is("n below 0, no SIZE, no PLACE", x.check(1, 0, 0, 0, -1, 0), Due.BAD);
        due.is("n below 0 and PLACE", x.check(1, 0, 0, -1, -1, 0), Due.BAD);
        due.is("what and PLACE", x.check(1, 0, 0, 0, 4, 2), Due.BAD);
        due.is("the finding ahead of them", x.status(), 2);
    }

    private static void checkNullAheadOfPlace() {
        DialTown x = town();
        for (int i : new int[] {-1, 0, 1, 40, Integer.MIN_VALUE, Integer.MAX_VALUE}) {
            due.is("NULL and PLACE", x.check(1, 0, 2, i, 1, 0), Due.NULL);
            due.is("NULL and PLACE", x.check(1, 0, 2, i, 0, 1), Due.NULL);
        }
    }

    /** Refusals come ahead of what is answered: also of a step that cannot be. */
    private static void checkPlaceAheadOfAStep() {
        DialTown x = town();
        x.set(0, 0, 9);
        due.is("a step that cannot be", x.check(1, 0, 0, 0, 3, 0), 1);
        due.is("PLACE behind it", x.check(1, 0, 0, 0, 4, 0), Due.PLACE);
        due.is("PLACE behind it, of shops", x.check(1, 0, 0, 0, 4, 1), Due.PLACE);
    }

    private static void asBadAheadOfKind() {
        DialTown x = town();
        due.is("KIND alone", x.as(0, 5), Due.KIND);
        due.is("SHOP and KIND", x.as(2, 5), Due.BAD);
        due.is("SHOP below 0 and KIND", x.as(-1, 5), Due.BAD);
        due.is("no such KIND at all", x.as(0, 6), Due.BAD);
        due.is("no such KIND at all", x.as(0, -1), Due.BAD);
    }

    /** "FAULTS, the first TOKEN that has one ..., of one TOKEN the least". */
    private static void textsFirstTokenAheadOfLeast() {
        String walls = "tower 8 8 1;" + "wall 0 0;".repeat(20);
        isFault("a number, then what cannot stand", "tower 9 x", 2, 6);
        isFault("what cannot stand, then a number", "tower x 9", 1, 6);
        isFault("a wall too many, then a number", walls + "wall 9 9;", 3, 192);
        isFault("a wall too many, then what cannot stand", walls + "wall x", 3, 192);
        isFault("a wall that is too many and cannot stand", walls + "shop dark 1 1 1;wall", 1, 208);
        isFault("a number, then the end", "tower 9", 2, 6);
    }

    private static void isFault(String name, String text, int fault, int place) {
        DialTown x = new DialTown();
        due.is(name, Due.read(x, text), -1000100 - place);
        due.is(name + ": its number", x.fault(), fault);
    }
}
