/** Promises 26 to 30: kinds, asks by bodies, the trace, counts. */
public final class AskTest {
    private static final int MIN = Integer.MIN_VALUE, MAX = Integer.MAX_VALUE;
    private static final String TOWN = "tower 4 4 4; shop lamp 5 0 9; shop dark 3 0 3; shop noon 6 0 40; "
        + "shop mass 1 1 7; shop sunny 2 0 80; shop lamp 8 8 99; shop mass 0 0 0;";
    private static final Due due = new Due();

    public static void main(String[] args) {
        kinds();
        asKinds();
        asks();
        asksAreRefused();
        traceLasts();
        counts();
        due.end();
    }

    private static void kinds() {
        DialTown x = Due.of(TOWN);
        int[] kinds = {5, 1, 2, 3, 4, 5, 3};
        for (int shop = 0; shop < kinds.length; shop++) {
            due.is("kind(" + shop + ")", x.kind(shop), kinds[shop]);
        }
        for (int bad : new int[] {-1, 7, 8, MIN, MAX}) {
            due.is("bad kind", x.kind(bad), Due.BAD);
        }
        due.is("no town", new DialTown().kind(0), Due.BAD);
    }

    private static void asKinds() {
        DialTown x = Due.of(TOWN);
        String[] are = {"0 4 5", "0 1", "0 1 2", "0 1 2 3", "0 4", "0 4 5", "0 1 2 3"};
        for (int shop = 0; shop < are.length; shop++) {
            for (int kind = 0; kind <= 5; kind++) {
                boolean is = are[shop].contains(String.valueOf(kind));
                due.is("as(" + shop + ", " + kind + ")", x.as(shop, kind), is ? shop : Due.KIND);
                due.is("status", x.status(), is ? 0 : 3);
            }
        }
        due.is("as keeps the kind", x.kind(3), 3);
        x.as(0, 1);
        int[][] bad = {{-1, 0}, {7, 0}, {0, -1}, {0, 6}, {7, 6}, {MIN, 0}, {MAX, 0}, {0, MIN}, {0, MAX}};
        for (int[] a : bad) {
            due.is("bad as", x.as(a[0], a[1]), Due.BAD);
        }
        due.is("status", x.status(), 3);
        due.is("no town", new DialTown().as(0, 0), Due.BAD);
    }

    private static void asks() {
        DialTown x = Due.of(TOWN);
        asks(x, 0, 0, 2 * (9 - 100), 14, 13, 10);
        asks(x, 0, 1, 0 - 2 * (9 - 100), 23, 20, 14, 13, 10);
        asks(x, 1, 0, 3 + 1 + 3, 11, 10, 21, 20);
        asks(x, 1, 1, 1 + 3, 21, 20);
        asks(x, 2, 0, 40 + 2 + 6 - 1000, 11, 10, 22, 21, 20);
        asks(x, 2, 1, 2 + 6 - 1000, 22, 21, 20);
        asks(x, 3, 0, -(7 + 2 * (3 + 10 - 1000)), 12, 11, 10, 24, 22, 21, 20);
        asks(x, 3, 1, 2 * (3 + 10 - 1000), 24, 22, 21, 20);
        asks(x, 4, 0, 80 - 100, 13, 10);
        asks(x, 4, 1, 4 - (80 - 100), 23, 20, 13, 10);
        asks(x, 5, 0, 2 * (99 - 100), 14, 13, 10);
        asks(x, 5, 1, 5 + 2, 23, 20, 14, 13, 10);
        asks(x, 6, 0, -(2 * (6 - 1000)), 12, 11, 10, 24, 22, 21, 20);
        asks(x, 6, 1, 2 * (6 - 1000), 24, 22, 21, 20);
    }

    private static void asks(DialTown x, int shop, int what, int answer, int... trace) {
        due.is("ask(" + shop + ", " + what + ")", x.ask(shop, what), answer);
        for (int i = 0; i < 17; i++) {
            due.is("trace(" + i + ")", x.trace(i), i < trace.length ? trace[i] : Due.NONE);
        }
    }

    private static void asksAreRefused() {
        DialTown x = Due.of(TOWN);
        x.ask(3, 0);
        x.as(0, 1);
        int[][] bad = {{-1, 0}, {7, 0}, {0, -1}, {0, 2}, {MIN, 0}, {MAX, 0}, {0, MIN}, {0, MAX}};
        for (int[] a : bad) {
            due.is("bad ask", x.ask(a[0], a[1]), Due.BAD);
            due.is("the trace stays", x.trace(0), 12);
            due.is("the trace stays", x.trace(6), 20);
        }
        due.is("no ask is told by status", x.status(), 3);
        due.is("no town", new DialTown().ask(0, 0), Due.BAD);
    }

    private static void traceLasts() {
        DialTown x = Due.of(TOWN);
        due.is("trace ahead of an ask", x.trace(0), Due.NONE);
        x.ask(1, 1);
        for (int i : new int[] {-1, 2, 15, 16, MIN, MAX}) {
            due.is("trace(" + i + ")", x.trace(i), Due.NONE);
        }
        Due.read(x, "tower 4 4 4; shop dark 0 0 0;");
        due.is("the trace stays with another town", x.trace(0), 21);
        x.undo();
        due.is("the trace stays with a shop undone", x.trace(1), 20);
    }

    private static void counts() {
        DialTown x = Due.of(TOWN + "   ");
        x.row(0, 0, 0);
        x.row(5, 2, 9);
        x.cloud(3, 1);
        x.season(5);
        x.feed(0, 3);
        int[] counts = {2, 7, 0, 1, 5, 3};
        for (int what = 0; what < counts.length; what++) {
            due.is("count(" + what + ")", x.count(what), counts[what]);
        }
        for (int bad : new int[] {-1, 6, MIN, MAX}) {
            due.is("bad count", x.count(bad), Due.BAD);
        }
        due.is("walls", Due.of("tower 4 4 4; wall 0 0; wall 1 0; wall 0 0;").count(2), 2);
    }
}
