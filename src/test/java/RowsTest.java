/** Promises 1 to 5 and 31: a new object, rows, and the findings that status() tells. */
public final class RowsTest {
    private static final Due due = new Due();

    public static void main(String[] args) {
        newObject();
        rowsAreLaid();
        rowsAreRefused();
        itemsAreSet();
        itemsAreCopied();
        copiesAreRefused();
        rowsAreDropped();
        statusIsOfTheLatest();
        statusLasts();
        due.end();
    }

    private static void newObject() {
        DialTown x = new DialTown();
        for (int what = 0; what <= 5; what++) {
            due.is("count of a new object", x.count(what), 0);
        }
        due.is("status of a new object", x.status(), 0);
        due.is("fault of a new object", x.fault(), 0);
        due.is("trace of a new object", x.trace(0), Due.NONE);
        due.is("open of a new object", x.open(0), Due.STATE);
        due.is("restore of a new object", x.restore(0), Due.STATE);
        for (int row = 0; row < 8; row++) {
            due.is("drop of a new object", x.drop(row), Due.NULL);
        }
    }

    private static void rowsAreLaid() {
        DialTown x = new DialTown();
        due.is("row(0, 0, 0)", x.row(0, 0, 0), 0);
        due.is("row(7, 2, 40)", x.row(7, 2, 40), 40);
        due.is("row(3, 1, 1)", x.row(3, 1, 1), 1);
        due.is("count(0)", x.count(0), 3);
        due.is("set(7, 39, 5)", x.set(7, 39, 5), 5);
        due.is("row(7, 2, 40) again", x.row(7, 2, 40), 40);
        due.is("count(0) again", x.count(0), 3);
        x.row(6, 2, 40);
        x.set(6, 0, 9);
        due.is("copy of a row laid anew", x.copy(7, 0, 6, 0, 40), 40);
        due.is("item 39 is 0 again", itemAsStep(x, 7, 39), 0);
        due.is("item 0 was copied", itemAsStep(x, 6, 0), 0);
        due.is("row of fewer items", x.row(7, 2, 3), 3);
        due.is("beyond the fewer items", x.set(7, 3, 1), Due.PLACE);
    }

    /** Reads an item below 5 through check(): 0 to 4 by where it leads from the middle of a town. */
    private static int itemAsStep(DialTown x, int row, int i) {
        if (x.count(4) == 0) {
            Due.read(x, "tower 0 0 1; wall 4 3; ");
        }
        int north = x.check(40, 0, row, i, 1, 0);
        int free = x.check(67, 0, row, i, 1, 0);
        return north == 1 && free == 0 ? 0 : free == 0 ? 1 : -1;
    }

    private static void rowsAreRefused() {
        DialTown x = new DialTown();
        int[][] bad = {{-1, 0, 1}, {8, 0, 1}, {0, -1, 1}, {0, 3, 1}, {0, 0, 41}, {8, 0, -1}, {0, 3, -1},
            {Integer.MIN_VALUE, 0, 1}, {Integer.MAX_VALUE, 0, 1}, {0, 0, Integer.MAX_VALUE}};
        for (int[] a : bad) {
            due.is("bad row", x.row(a[0], a[1], a[2]), Due.BAD);
        }
        due.is("status after bad rows", x.status(), 0);
        due.is("row(0, 0, -1)", x.row(0, 0, -1), Due.SIZE);
        due.is("row(0, 0, MIN)", x.row(0, 0, Integer.MIN_VALUE), Due.SIZE);
        due.is("status after a size", x.status(), 4);
        due.is("count(0) after refusals", x.count(0), 0);
        x.row(2, 0, 5);
        due.is("row(2, 1, -1)", x.row(2, 1, -1), Due.SIZE);
        due.is("the row before stays", x.drop(2), 5);
    }

    private static void itemsAreSet() {
        DialTown x = new DialTown();
        x.row(0, 0, 2);
        x.row(1, 1, 2);
        x.row(2, 2, 2);
        int[][] sets = {
            {0, 127, 127}, {0, 128, -128}, {0, 255, -1}, {0, 256, 0}, {0, -129, 127}, {0, 65535, -1},
            {1, 32767, 32767}, {1, 32768, -32768}, {1, 65535, -1}, {1, 65536, 0}, {1, -32769, 32767},
            {2, Integer.MAX_VALUE, Integer.MAX_VALUE}, {2, Integer.MIN_VALUE, Integer.MIN_VALUE}, {2, 65536, 65536}};
        for (int[] a : sets) {
            due.is("set(" + a[0] + ", 1, " + a[1] + ")", x.set(a[0], 1, a[1]), a[2]);
        }
        due.is("set in row -1", x.set(-1, 0, 1), Due.BAD);
        due.is("set in row 8", x.set(8, 0, 1), Due.BAD);
        due.is("set in a missing row, no place", x.set(5, -1, 1), Due.NULL);
        due.is("status", x.status(), 1);
        due.is("set at -1", x.set(0, -1, 1), Due.PLACE);
        due.is("set at 2", x.set(0, 2, 1), Due.PLACE);
        due.is("set at MAX", x.set(0, Integer.MAX_VALUE, 1), Due.PLACE);
        due.is("set at MIN", x.set(0, Integer.MIN_VALUE, 1), Due.PLACE);
        due.is("status", x.status(), 2);
        x.row(0, 0, 0);
        due.is("set in a row of none", x.set(0, 0, 1), Due.PLACE);
    }

    private static void itemsAreCopied() {
        DialTown x = Due.of("tower 0 0 1;");
        Due.row(x, 0, 1, 2, 3, 0);
        due.is("copy ahead within a row", x.copy(0, 0, 0, 1, 3), 3);
        // 1 1 2 3: east, east, south, west from 40: 41, 42, 51, 50; a fifth cell would tell another way
        x.row(1, 2, 4);
        due.is("copy to another row", x.copy(0, 0, 1, 0, 4), 4);
        due.is("the way of it", walkEnd(x, 1, 4, 40), 50);
        Due.row(x, 0, 1, 2, 3, 0);
        due.is("copy back within a row", x.copy(0, 1, 0, 0, 3), 3);
        // 2 3 0 0 from 40: 49, 48, 39, 30
        due.is("the way of it", walkEnd(x, 0, 4, 40), 30);
        due.is("copy of none at the ends", x.copy(0, 4, 1, 4, 0), 0);
        due.is("status", x.status(), 0);
        due.is("copy between", x.copy(1, 2, 0, 0, 1), 1);
        // 2 3 0 0 again, since item 2 of row 1 is 2
        due.is("the way of it", walkEnd(x, 0, 4, 40), 30);
    }

    /** Where a walk ends: a lone noon shop is put at each likely cell until the walk meets it at its end. */
    private static int walkEnd(DialTown x, int row, int n, int from) {
        int found = -1;
        for (int cell = 27; cell < 63; cell++) {
            if (x.more(3, cell, 0) < 0) {
                continue;
            }
            if ((x.check(from, 36 - n, row, 0, n, 1) & 1) == 1) {
                found = cell;
            }
            x.undo();
        }
        return found;
    }

    private static void copiesAreRefused() {
        DialTown x = new DialTown();
        x.row(0, 0, 4);
        x.row(1, 1, 4);
        x.row(2, 0, 2);
        due.is("copy from row -1", x.copy(-1, 0, 0, 0, 1), Due.BAD);
        due.is("copy to row 8", x.copy(0, 0, 8, 0, 1), Due.BAD);
        due.is("copy from a missing row to 8", x.copy(5, 0, 8, 0, 1), Due.BAD);
        due.is("status", x.status(), 0);
        due.is("copy from a missing row", x.copy(5, 0, 0, 0, 1), Due.NULL);
        due.is("copy to a missing row, no place", x.copy(0, -1, 5, 0, 1), Due.NULL);
        due.is("copy of two lanes, no place", x.copy(0, -1, 1, 0, 9), Due.STORE);
        due.is("status", x.status(), 5);
        due.is("copy of none of two lanes", x.copy(0, 0, 1, 0, 0), Due.STORE);
        int[][] places = {{-1, 0, 1}, {0, -1, 1}, {0, 0, -1}, {0, 0, 3}, {0, 1, 2}, {3, 0, 2}, {5, 0, 0}, {0, 3, 0},
            {Integer.MAX_VALUE, 0, 1}, {1, 0, Integer.MAX_VALUE}, {0, Integer.MAX_VALUE, Integer.MAX_VALUE},
            {0, 0, Integer.MIN_VALUE}, {Integer.MIN_VALUE, 0, 1}};
        for (int[] a : places) {
            due.is("copy beyond", x.copy(0, a[0], 2, a[1], a[2]), Due.PLACE);
        }
        due.is("status", x.status(), 2);
        due.is("a copy that fits", x.copy(0, 2, 2, 0, 2), 2);
        due.is("status", x.status(), 0);
    }

    private static void rowsAreDropped() {
        DialTown x = new DialTown();
        x.row(4, 1, 17);
        due.is("drop(4)", x.drop(4), 17);
        due.is("count(0)", x.count(0), 0);
        due.is("drop(4) again", x.drop(4), Due.NULL);
        due.is("status", x.status(), 1);
        due.is("set in it", x.set(4, 0, 1), Due.NULL);
        due.is("drop(-1)", x.drop(-1), Due.BAD);
        due.is("drop(8)", x.drop(8), Due.BAD);
        x.row(4, 1, 0);
        due.is("drop of none", x.drop(4), 0);
        due.is("status", x.status(), 0);
    }

    private static void statusIsOfTheLatest() {
        DialTown x = new DialTown();
        x.row(0, 0, 3);
        x.set(0, 3, 1);
        due.is("status after a place", x.status(), 2);
        x.set(0, 2, 1);
        due.is("status after a set", x.status(), 0);
        x.set(0, 3, 1);
        x.copy(0, 0, 0, 1, 2);
        due.is("status after a copy", x.status(), 0);
        x.set(0, 3, 1);
        x.drop(0);
        due.is("status after a drop", x.status(), 0);
        x.drop(0);
        due.is("status after a drop of none", x.status(), 1);
    }

    private static void statusLasts() {
        DialTown x = new DialTown();
        x.row(0, 0, -1);
        due.is("status after size", x.status(), 4);
        x.row(9, 0, 1);
        x.set(9, 0, 1);
        x.drop(9);
        x.copy(9, 0, 0, 0, 0);
        x.check(0, 0, 0, 0, 0, 0);
        x.as(0, 0);
        x.season(1);
        x.ask(0, 0);
        x.feed(0, 9);
        x.town();
        due.is("status after bad calls and others", x.status(), 4);
        due.is("status twice", x.status(), 4);
        Due.read(x, "tower 4 4 4; shop lamp 0 0 0;");
        due.is("status after a town", x.status(), 4);
        due.is("as(0, 5)", x.as(0, 5), 0);
        due.is("status after as", x.status(), 0);
        due.is("as(0, 1)", x.as(0, 1), Due.KIND);
        due.is("status after no such kind", x.status(), 3);
        due.is("check of a missing row", x.check(0, 0, 0, 0, 0, 0), Due.NULL);
        due.is("status after check", x.status(), 1);
        x.row(0, 0, 1);
        due.is("status after a row", x.status(), 0);
        due.is("check beyond a row", x.check(0, 0, 0, 0, 2, 0), Due.PLACE);
        due.is("status after check", x.status(), 2);
        due.is("check of a row", x.check(80, 0, 0, 0, 1, 0), 0);
        due.is("status after check", x.status(), 0);
    }
}
