/** Parts 3 and 4 of the terms and promises 26 to 30: kinds, asks, the trace, counts, each to its bounds. */
public final class AskBoundsTest {
    private static final int MIN = Integer.MIN_VALUE, MAX = Integer.MAX_VALUE;
    private static final String TOWER = "tower 4 4 4;";
    private static final String[] SORTS = {"dark", "sunny", "noon", "mass", "lamp"};
    private static final Due due = new Due();

    public static void main(String[] args) {
        kindsOfShops();
        kindsOfOtherKinds();
        askNumbers();
        sizesOfEachKind();
        marksOfEachKind();
        marksOfTheFirstAndTheLast();
        bodiesInTheirOrder();
        traceNumbers();
        traceIsEmptyAheadOfAnAsk();
        traceStaysWhereRefused();
        countNumbers();
        countsFromNoneToAll();
        due.end();
    }

    /** "The KIND of a SHOP, as told (1 to 5). BAD." */
    private static void kindsOfShops() {
        int[] kinds = {1, 4, 2, 3, 5};
        for (int sort = 0; sort < SORTS.length; sort++) {
            DialTown x = Due.of(TOWER + "shop " + SORTS[sort] + " 0 0 1;");
            due.is("kind of " + SORTS[sort], x.kind(0), kinds[sort]);
            for (int shop : new int[] {-1, 1, 8, MIN, MAX}) {
                due.is("kind of shop " + shop, x.kind(shop), Due.BAD);
            }
        }
        DialTown eight = Due.of(TOWER);
        for (int shop = 0; shop < 8; shop++) {
            due.is("none yet", eight.kind(shop), Due.BAD);
            eight.more(shop % 5, shop, 1);
            due.is("kind of shop " + shop, eight.kind(shop), kinds[shop % 5]);
        }
        due.is("none beyond", eight.kind(8), Due.BAD);
        due.is("no town", new DialTown().kind(0), Due.BAD);
    }

    /** "KINDS of SHOPS: 0 SHOP; 1 DARK, a SHOP; 2 NOON, a DARK one; 3 MASS, a NOON one; 4 SUNNY, a SHOP; 5 LAMP". */
    private static void kindsOfOtherKinds() {
        boolean[][] is = {
            {true, true, false, false, false, false},
            {true, false, false, false, true, false},
            {true, true, true, false, false, false},
            {true, true, true, true, false, false},
            {true, false, false, false, true, true}};
        for (int sort = 0; sort < SORTS.length; sort++) {
            DialTown x = Due.of(TOWER + "shop lamp 0 0 1;shop " + SORTS[sort] + " 1 0 1;");
            for (int kind = 0; kind <= 5; kind++) {
                due.is(SORTS[sort] + " as " + kind, x.as(1, kind), is[sort][kind] ? 1 : Due.KIND);
                due.is("its finding", x.status(), is[sort][kind] ? 0 : 3);
            }
            for (int kind : new int[] {-1, 6, MIN, MAX}) {
                due.is(SORTS[sort] + " as " + kind, x.as(1, kind), Due.BAD);
            }
            for (int shop : new int[] {-1, 2, MIN, MAX}) {
                due.is("shop " + shop, x.as(shop, 0), Due.BAD);
            }
            due.is("the shop's number", x.as(0, 5), 0);
            due.is("its kind stays", x.kind(1), new int[] {1, 4, 2, 3, 5}[sort]);
        }
    }

    private static void askNumbers() {
        DialTown x = Due.of(TOWER + "shop dark 0 0 1;shop dark 1 0 1;");
        for (int what = 0; what <= 1; what++) {
            due.is("shop 0", x.ask(0, what), what == 0 ? 1 : 0);
            due.is("shop 1", x.ask(1, what), what == 0 ? 3 : 2);
            for (int shop : new int[] {-1, 2, 8, MIN, MAX}) {
                due.is("shop " + shop, x.ask(shop, what), Due.BAD);
            }
            due.is("no shops", Due.of(TOWER).ask(0, what), Due.BAD);
            due.is("no town", new DialTown().ask(0, what), Due.BAD);
        }
        for (int what : new int[] {-1, 2, MIN, MAX}) {
            due.is("what " + what, x.ask(0, what), Due.BAD);
        }
    }

    /** SIZE by the bodies 10 to 14, of shop 1 in cell 12, with the rents 0 and 99. */
    private static void sizesOfEachKind() {
        for (int rent : new int[] {0, 5, 99}) {
            isAsked("dark", rent, 0, rent + 13);
            isAsked("noon", rent, 0, rent + 13 - 1000);
            isAsked("mass", rent, 0, 0 - (rent + 2 * (13 - 1000)));
            isAsked("sunny", rent, 0, rent - 100);
            isAsked("lamp", rent, 0, 2 * (rent - 100));
        }
    }

    /** MARK by the bodies 20 to 24. */
    private static void marksOfEachKind() {
        for (int rent : new int[] {0, 5, 99}) {
            isAsked("dark", rent, 1, 13);
            isAsked("noon", rent, 1, 13 - 1000);
            isAsked("mass", rent, 1, 2 * (13 - 1000));
            isAsked("sunny", rent, 1, 1 - (rent - 100));
            isAsked("lamp", rent, 1, 1 - 2 * (rent - 100));
        }
    }

    private static void isAsked(String sort, int rent, int what, int want) {
        DialTown x = Due.of(TOWER + "shop dark 0 0 50;shop " + sort + " 3 1 " + rent + ";");
        due.is("ask " + what + " of " + sort + " of rent " + rent, x.ask(1, what), want);
    }

    /** "its number", "its CELL": 0 and 7, 0 and 80. */
    private static void marksOfTheFirstAndTheLast() {
        DialTown x = Due.of(TOWER + "shop dark 0 0 0;");
        for (int cell = 1; cell < 7; cell++) {
            x.more(4, cell, 0);
        }
        x.more(3, 80, 99);
        due.is("mark of shop 0", x.ask(0, 1), 0);
        due.is("size of shop 0", x.ask(0, 0), 0);
        due.is("mark of shop 7", x.ask(7, 1), 2 * (7 + 80 - 1000));
        due.is("size of shop 7", x.ask(7, 0), 0 - (99 + 2 * (7 + 80 - 1000)));
        due.is("mark of a lamp", x.ask(6, 1), 6 + 200);
    }

    /** "each of which leaves its number in THE TRACE as it begins"; what is "asked once" begins once. */
    private static void bodiesInTheirOrder() {
        int[][] sizes = {{11, 10, 21, 20}, {13, 10}, {11, 10, 22, 21, 20}, {12, 11, 10, 24, 22, 21, 20}, {14, 13, 10}};
        int[][] marks = {{21, 20}, {23, 20, 13, 10}, {22, 21, 20}, {24, 22, 21, 20}, {23, 20, 14, 13, 10}};
        for (int sort = 0; sort < SORTS.length; sort++) {
            DialTown x = Due.of(TOWER + "shop " + SORTS[sort] + " 0 0 1;");
            x.ask(0, 0);
            isTrace("size of " + SORTS[sort], x, sizes[sort]);
            x.ask(0, 1);
            isTrace("mark of " + SORTS[sort], x, marks[sort]);
        }
    }

    private static void isTrace(String name, DialTown x, int... bodies) {
        for (int i = 0; i <= 17; i++) {
            due.is(name + ": trace " + i, x.trace(i), i < bodies.length ? bodies[i] : Due.NONE);
        }
    }

    /** "Number i of THE TRACE; NONE." */
    private static void traceNumbers() {
        DialTown x = Due.of(TOWER + "shop mass 0 0 1;");
        isTrace("ahead of an ask", x);
        x.ask(0, 0);
        due.is("the first", x.trace(0), 12);
        due.is("the last", x.trace(6), 20);
        for (int i : new int[] {-1, 7, 15, 16, 17, MIN, MAX}) {
            due.is("trace " + i, x.trace(i), Due.NONE);
        }
        isTrace("a new object", new DialTown());
    }

    /** "THE TRACE is empty ahead of it". */
    private static void traceIsEmptyAheadOfAnAsk() {
        DialTown x = Due.of(TOWER + "shop mass 0 0 1;shop sunny 1 0 1;");
        x.ask(0, 0);
        x.ask(1, 0);
        isTrace("a shorter one", x, 13, 10);
        for (int time = 0; time < 20; time++) {
            x.ask(0, 0);
        }
        isTrace("asked often", x, 12, 11, 10, 24, 22, 21, 20);
    }

    /** "(where that is refused it stays)". */
    private static void traceStaysWhereRefused() {
        DialTown x = Due.of(TOWER + "shop sunny 0 0 1;");
        x.ask(0, 1);
        for (int bad : new int[] {-1, 1, 8, MIN, MAX}) {
            x.ask(bad, 0);
            isTrace("shop " + bad, x, 23, 20, 13, 10);
        }
        for (int bad : new int[] {-1, 2, MIN, MAX}) {
            x.ask(0, bad);
            isTrace("what " + bad, x, 23, 20, 13, 10);
        }
    }

    private static void countNumbers() {
        for (DialTown x : new DialTown[] {new DialTown(), Due.of(TOWER)}) {
            for (int what : new int[] {-1, 6, MIN, MAX}) {
                due.is("count " + what, x.count(what), Due.BAD);
            }
        }
        for (int what = 0; what <= 5; what++) {
            due.is("count " + what + " at first", new DialTown().count(what), 0);
            due.is("count " + what + " of a town", Due.of(TOWER).count(what), what == 4 ? 1 : 0);
        }
    }

    private static void countsFromNoneToAll() {
        DialTown x = Due.of("tower 8 8 1;" + "wall 0 0;wall 1 0;wall 2 0;wall 3 0;wall 4 0;wall 5 0;wall 6 0;wall 7 0;"
            + "wall 0 1;wall 1 1;wall 2 1;wall 3 1;wall 4 1;wall 5 1;wall 6 1;wall 7 1;wall 0 2;wall 1 2;wall 2 2;"
            + "wall 3 2;");
        for (int n = 1; n <= 8; n++) {
            x.row(n - 1, 0, 40);
            due.is("rows", x.count(0), n);
            x.more(0, 70 + n, 1);
            due.is("shops", x.count(1), n);
        }
        due.is("a ninth shop, for cell 80 is the tower's", x.more(0, 80, 1), Due.BAD);
        due.is("walls", x.count(2), 20);
        due.is("clouds", x.count(3), 0);
        x.cloud(72, 1);
        due.is("one cloud", x.count(3), 1);
        x.draw(1, 100);
        due.is("all clouds", x.count(3), 73);
        x.season(6);
        due.is("the last season", x.count(4), 6);
        due.is("a full tape", Due.feed(x, " ".repeat(400)), 400);
        due.is("its bytes", x.count(5), 400);
        x.town();
        int[] counts = {8, 8, 20, 73, 6, 0};
        for (int what = 0; what <= 5; what++) {
            due.is("count " + what + " after a fault", x.count(what), counts[what]);
        }
    }
}
