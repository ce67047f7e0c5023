/** Part 1 of the terms and promises 1 to 5: each bound of rows, lanes, items and places, sentence by sentence. */
public final class RowBoundsTest {
    private static final int MIN = Integer.MIN_VALUE, MAX = Integer.MAX_VALUE;
    private static final String TOWN = "tower 4 4 1;";
    private static final Due due = new Due();

    public static void main(String[] args) {
        rowsAreMissingAtFirst();
        rowsAreEight();
        lanesAreThree();
        itemsAreUpToForty();
        itemsAreNoughtAtFirst();
        aRowStandsInPlaceOfWhatIsThere();
        bytesKeepEightBits();
        shortsKeepSixteenBits();
        intsKeepAll();
        whatIsKeptIsWhatWasTold();
        setHasPlaces();
        copyFromEndToEnd();
        copyOfNone();
        copyAsTheyWereAhead();
        copyOfEachLane();
        copyBeyondAnEnd();
        copyThatIsFoundCopiesNothing();
        dropTellsHowMany();
        due.end();
    }

    /** "ROWS 0 .. 7 are missing (at first)". */
    private static void rowsAreMissingAtFirst() {
        DialTown x = Due.of(TOWN);
        for (int row = 0; row <= 7; row++) {
            due.is("set in row " + row, x.set(row, 0, 0), Due.NULL);
            due.is("copy from row " + row, x.copy(row, 0, row, 0, 0), Due.NULL);
            due.is("check by row " + row, x.check(0, 0, row, 0, 0, 0), Due.NULL);
            due.is("drop of row " + row, x.drop(row), Due.NULL);
        }
        due.is("none is there", x.count(0), 0);
    }

    /** ROWS 0 .. 7: both ends, and the numbers beside them, in every call that names a row. */
    private static void rowsAreEight() {
        DialTown x = Due.of(TOWN);
        for (int row : new int[] {0, 7}) {
            due.is("row " + row, x.row(row, 0, 2), 2);
            due.is("set in row " + row, x.set(row, 1, 3), 3);
            due.is("copy in row " + row, x.copy(row, 1, row, 0, 1), 1);
            due.is("check by row " + row, x.check(44, 0, row, 0, 2, 0), 0);
        }
        due.is("both are there", x.count(0), 2);
        due.is("copy from 0 to 7", x.copy(0, 0, 7, 0, 2), 2);
        due.is("copy from 7 to 0", x.copy(7, 0, 0, 0, 2), 2);
        for (int row : new int[] {-1, 8, MIN, MAX}) {
            due.is("row " + row, x.row(row, 0, 2), Due.BAD);
            due.is("set in row " + row, x.set(row, 0, 3), Due.BAD);
            due.is("copy from row " + row, x.copy(row, 0, 0, 0, 1), Due.BAD);
            due.is("copy to row " + row, x.copy(0, 0, row, 0, 1), Due.BAD);
            due.is("check by row " + row, x.check(44, 0, row, 0, 1, 0), Due.BAD);
            due.is("drop of row " + row, x.drop(row), Due.BAD);
        }
        due.is("both are there still", x.count(0), 2);
        due.is("drop of row 0", x.drop(0), 2);
        due.is("drop of row 7", x.drop(7), 2);
        due.is("none is there", x.count(0), 0);
        for (int row = 0; row <= 7; row++) {
            due.is("one row more", x.row(row, row % 3, row), row);
            due.is("as many as laid", x.count(0), row + 1);
        }
    }

    /** "have a LANE (0 bytes, 1 shorts, 2 ints)". */
    private static void lanesAreThree() {
        DialTown x = new DialTown();
        for (int lane = 0; lane <= 2; lane++) {
            due.is("lane " + lane, x.row(lane, lane, 1), 1);
        }
        for (int lane : new int[] {-1, 3, MIN, MAX}) {
            due.is("lane " + lane, x.row(3, lane, 1), Due.BAD);
        }
        due.is("no other row", x.count(0), 3);
        due.is("a byte", x.set(0, 0, 0x12345), 0x45);
        due.is("a short", x.set(1, 0, 0x12345), 0x2345);
        due.is("an int", x.set(2, 0, 0x12345), 0x12345);
    }

    /** "0 to 40 ITEMS"; n above 40 is BAD, fewer than none is SIZE. */
    private static void itemsAreUpToForty() {
        DialTown x = new DialTown();
        for (int n : new int[] {0, 1, 39, 40}) {
            due.is(n + " items", x.row(0, 2, n), n);
            due.is("one beyond " + n, x.set(0, n, 1), Due.PLACE);
            due.is("drop of " + n, x.drop(0), n);
        }
        x.row(0, 2, 5);
        for (int n : new int[] {41, 42, MAX}) {
            due.is(n + " items", x.row(0, 2, n), Due.BAD);
            due.is("a new row of " + n, x.row(1, 2, n), Due.BAD);
        }
        for (int n : new int[] {-1, -41, MIN}) {
            due.is(n + " items", x.row(0, 2, n), Due.SIZE);
            due.is("a new row of " + n, x.row(1, 2, n), Due.SIZE);
        }
        due.is("no new row", x.count(0), 1);
        due.is("the row before is there", x.set(0, 4, 7), 7);
        due.is("it has its items", x.drop(0), 5);
    }

    /** "0 at first". */
    private static void itemsAreNoughtAtFirst() {
        for (int lane = 0; lane <= 2; lane++) {
            DialTown x = Due.of(TOWN);
            x.row(5, lane, 40);
            due.ways("lane " + lane + " at first", x, 5, new int[40]);
        }
    }

    /** "A ROW of a LANE with n ITEMS, in place of what is there". */
    private static void aRowStandsInPlaceOfWhatIsThere() {
        DialTown x = Due.of(TOWN);
        Due.row(x, 2, 1, 2, 3, 4, 1);
        due.is("laid anew, as long", x.row(2, 2, 5), 5);
        due.ways("laid anew, as long", x, 2, 0, 0, 0, 0, 0);
        Due.row(x, 2, 1, 2, 3, 4, 1);
        due.is("laid anew, longer", x.row(2, 2, 7), 7);
        due.ways("laid anew, longer", x, 2, 0, 0, 0, 0, 0, 0, 0);
        x.set(2, 6, 3);
        due.is("laid anew, shorter", x.row(2, 0, 3), 3);
        due.is("it is of bytes", x.set(2, 2, 128), -128);
        due.is("it is shorter", x.set(2, 3, 1), Due.PLACE);
        due.is("laid anew, longer again", x.row(2, 1, 7), 7);
        due.ways("laid anew, longer again", x, 2, 0, 0, 0, 0, 0, 0, 0);
        due.is("it is of shorts", x.set(2, 6, 32768), -32768);
        due.is("it is one row", x.count(0), 1);
        due.is("dropped", x.drop(2), 7);
        due.is("laid after a drop", x.row(2, 2, 7), 7);
        due.ways("laid after a drop", x, 2, 0, 0, 0, 0, 0, 0, 0);
    }

    /** "its lowest bits, as many as the LANE has (read with their sign)": 8. */
    private static void bytesKeepEightBits() {
        sets(0, 0, 0, 1, 1, -1, -1, 127, 127, 128, -128, 129, -127, 255, -1, 256, 0, 257, 1, -128, -128, -129, 127,
            -255, 1, -256, 0, 32767, -1, 32768, 0, 65535, -1, 65536, 0, MAX, -1, MIN, 0);
    }

    /** As above: 16. */
    private static void shortsKeepSixteenBits() {
        sets(1, 0, 0, 1, 1, -1, -1, 127, 127, 128, 128, 256, 256, 32767, 32767, 32768, -32768, 32769, -32767,
            65535, -1, 65536, 0, 65537, 1, -32768, -32768, -32769, 32767, -65535, 1, -65536, 0, MAX, -1, MIN, 0);
    }

    /** As above: 32, so also numbers that look like a refusal. */
    private static void intsKeepAll() {
        sets(2, 0, 0, 1, 1, -1, -1, 128, 128, 256, 256, 32768, 32768, 65536, 65536, -32769, -32769, MAX, MAX, MIN, MIN,
            Due.NONE, Due.NONE, Due.BAD, Due.BAD, Due.STATE, Due.STATE, Due.PLACE, Due.PLACE);
        DialTown x = new DialTown();
        x.row(0, 2, 1);
        x.set(0, 1, 1);
        due.is("an item like a finding", x.set(0, 0, Due.NULL), Due.NULL);
        due.is("it is no finding", x.status(), 0);
    }

    private static void sets(int lane, int... toldAndKept) {
        DialTown x = new DialTown();
        x.row(4, lane, 3);
        for (int k = 0; k < toldAndKept.length; k += 2) {
            due.is("lane " + lane + " keeps " + toldAndKept[k], x.set(4, 1, toldAndKept[k]), toldAndKept[k + 1]);
        }
    }

    /** "what it is then": it is kept as it is told, so that a walk goes by it. */
    private static void whatIsKeptIsWhatWasTold() {
        DialTown x = Due.of(TOWN);
        Due.rowOf(x, 0, 0, 256, 257, 514, -253, 260, 5, 128, -1);
        due.ways("bytes", x, 0, 0, 1, 2, 3, 4, Due.NONE, Due.NONE, Due.NONE);
        Due.rowOf(x, 1, 1, 65536, 65537, -65534, 131075, 65540, 256, 257, 32768);
        due.ways("shorts", x, 1, 0, 1, 2, 3, 4, Due.NONE, Due.NONE, Due.NONE);
        Due.rowOf(x, 2, 2, 0, 1, 2, 3, 4, 256, 65536, MIN);
        due.ways("ints", x, 2, 0, 1, 2, 3, 4, Due.NONE, Due.NONE, Due.NONE);
        x.set(2, 3, 1);
        due.ways("one item alone is set", x, 2, 0, 1, 2, 1, 4);
    }

    /** PLACE of set: both ends of a row, and the places beside them. */
    private static void setHasPlaces() {
        DialTown x = new DialTown();
        for (int n : new int[] {1, 2, 40}) {
            x.row(0, 1, n);
            due.is("the first of " + n, x.set(0, 0, 9), 9);
            due.is("the last of " + n, x.set(0, n - 1, 8), 8);
            for (int i : new int[] {-1, n, n + 1, MIN, MAX}) {
                due.is("place " + i + " of " + n, x.set(0, i, 7), Due.PLACE);
                due.is("its finding", x.status(), 2);
            }
        }
        x.row(0, 1, 0);
        for (int i : new int[] {-1, 0, 1}) {
            due.is("place " + i + " of none", x.set(0, i, 7), Due.PLACE);
        }
    }

    private static void copyFromEndToEnd() {
        DialTown x = Due.of(TOWN);
        Due.row(x, 0, 1, 2, 3, 4);
        Due.row(x, 1, 4, 4, 4, 4, 4, 4);
        due.is("all of them", x.copy(0, 0, 1, 0, 4), 4);
        due.ways("all of them", x, 1, 1, 2, 3, 4, 4, 4);
        due.is("all to the end", x.copy(0, 0, 1, 2, 4), 4);
        due.ways("all to the end", x, 1, 1, 2, 1, 2, 3, 4);
        due.is("the last to the first", x.copy(0, 3, 1, 0, 1), 1);
        due.ways("the last to the first", x, 1, 4, 2, 1, 2, 3, 4);
        due.is("the first to the last", x.copy(0, 0, 1, 5, 1), 1);
        due.ways("the first to the last", x, 1, 4, 2, 1, 2, 3, 1);
        due.ways("from where they came they stay", x, 0, 1, 2, 3, 4);
        DialTown long40 = new DialTown();
        long40.row(0, 0, 40);
        long40.row(1, 0, 40);
        due.is("40", long40.copy(0, 0, 1, 0, 40), 40);
        due.is("41", long40.copy(0, 0, 1, 0, 41), Due.PLACE);
    }

    /** None can be copied from and to every place up to the end of a row, also of a row of none. */
    private static void copyOfNone() {
        DialTown x = Due.of(TOWN);
        Due.row(x, 0, 1, 2);
        Due.row(x, 1, 3, 4, 1);
        x.row(2, 2, 0);
        due.is("none from the first", x.copy(0, 0, 1, 0, 0), 0);
        due.is("none from the end", x.copy(0, 2, 1, 3, 0), 0);
        due.is("none from a row of none", x.copy(2, 0, 1, 3, 0), 0);
        due.is("none to a row of none", x.copy(0, 2, 2, 0, 0), 0);
        due.is("it had no finding", x.status(), 0);
        due.is("none from beyond the end", x.copy(0, 3, 1, 0, 0), Due.PLACE);
        due.is("none to beyond the end", x.copy(0, 0, 1, 4, 0), Due.PLACE);
        due.is("none from beyond a row of none", x.copy(2, 1, 1, 0, 0), Due.PLACE);
        due.is("none from below 0", x.copy(0, -1, 1, 0, 0), Due.PLACE);
        due.is("none to below 0", x.copy(0, 0, 1, -1, 0), Due.PLACE);
        due.is("one from a row of none", x.copy(2, 0, 1, 0, 1), Due.PLACE);
        due.is("one to a row of none", x.copy(0, 0, 2, 0, 1), Due.PLACE);
        due.ways("no item came", x, 1, 3, 4, 1);
    }

    /** "as they were ahead": a row onto itself, up, down and in place. */
    private static void copyAsTheyWereAhead() {
        DialTown x = Due.of(TOWN);
        Due.row(x, 0, 1, 2, 3, 4, 0);
        due.is("up by one", x.copy(0, 0, 0, 1, 4), 4);
        due.ways("up by one", x, 0, 1, 1, 2, 3, 4);
        Due.row(x, 0, 1, 2, 3, 4, 0);
        due.is("up by two", x.copy(0, 0, 0, 2, 3), 3);
        due.ways("up by two", x, 0, 1, 2, 1, 2, 3);
        Due.row(x, 0, 1, 2, 3, 4, 0);
        due.is("down by one", x.copy(0, 1, 0, 0, 4), 4);
        due.ways("down by one", x, 0, 2, 3, 4, 0, 0);
        Due.row(x, 0, 1, 2, 3, 4, 0);
        due.is("in place", x.copy(0, 0, 0, 0, 5), 5);
        due.ways("in place", x, 0, 1, 2, 3, 4, 0);
        due.is("apart", x.copy(0, 0, 0, 3, 2), 2);
        due.ways("apart", x, 0, 1, 2, 3, 1, 2);
        due.is("up beyond the end", x.copy(0, 0, 0, 1, 5), Due.PLACE);
        due.ways("up beyond the end", x, 0, 1, 2, 3, 1, 2);
    }

    /** STORE: "ROWS of two LANES", each pair of them; of one lane none. */
    private static void copyOfEachLane() {
        for (int a = 0; a <= 2; a++) {
            for (int b = 0; b <= 2; b++) {
                DialTown x = Due.of(TOWN);
                Due.rowOf(x, 0, a, 1, 2, 3);
                Due.rowOf(x, 1, b, 4, 4, 4);
                String name = "from lane " + a + " to lane " + b;
                due.is(name, x.copy(0, 0, 1, 1, 2), a == b ? 2 : Due.STORE);
                due.is(name + ", its finding", x.status(), a == b ? 0 : 5);
                due.is(name + ", none", x.copy(0, 0, 1, 1, 0), a == b ? 0 : Due.STORE);
                due.ways(name, x, 1, a == b ? new int[] {4, 1, 2} : new int[] {4, 4, 4});
            }
        }
    }

    /** "PLACE (i, j, n below 0, or beyond an end)": each alone, for a row of 4 and one of 6. */
    private static void copyBeyondAnEnd() {
        DialTown x = new DialTown();
        x.row(0, 0, 4);
        x.row(1, 0, 6);
        int[][] places = {
            {-1, 0, 2}, {MIN, 0, 2}, {0, -1, 2}, {0, MIN, 2}, {0, 0, -1}, {2, 2, -1}, {0, 0, MIN},
            {1, 0, 4}, {2, 0, 3}, {3, 0, 2}, {4, 0, 1}, {5, 0, 0}, {MAX, 0, 1}, {MAX, 0, MAX}, {1, 0, MAX}, {0, 0, 5},
            {0, 3, 4}, {0, 4, 3}, {0, 5, 2}, {0, 6, 1}, {0, 7, 0}, {0, MAX, 1}, {0, MAX, MAX}, {0, 1, MAX}};
        for (int[] a : places) {
            due.is("copy from " + a[0] + " to " + a[1] + " of " + a[2], x.copy(0, a[0], 1, a[1], a[2]), Due.PLACE);
            due.is("its finding", x.status(), 2);
            x.copy(0, 0, 1, 0, 0);
        }
        due.is("5 of 6 to a row of 4", x.copy(1, 0, 0, 0, 5), Due.PLACE);
        int[][] fitting = {{0, 2, 4}, {0, 0, 4}, {1, 3, 3}, {3, 5, 1}, {4, 6, 0}};
        for (int[] a : fitting) {
            due.is("copy from " + a[0] + " to " + a[1] + " of " + a[2], x.copy(0, a[0], 1, a[1], a[2]), a[2]);
            due.is("no finding", x.status(), 0);
        }
    }

    /** "What is refused, or found, changes nothing": also not the items that there would have been room for. */
    private static void copyThatIsFoundCopiesNothing() {
        DialTown x = Due.of(TOWN);
        Due.row(x, 0, 1, 2, 3, 1);
        Due.row(x, 1, 4, 4, 4);
        x.copy(0, 0, 1, 0, 4);
        due.ways("beyond the end of the second", x, 1, 4, 4, 4);
        x.copy(0, 2, 1, 0, 3);
        due.ways("beyond the end of the first", x, 1, 4, 4, 4);
        x.copy(0, -1, 1, 0, 2);
        due.ways("from below 0", x, 1, 4, 4, 4);
        x.copy(0, 0, 1, -1, 2);
        due.ways("to below 0", x, 1, 4, 4, 4);
        x.copy(0, 0, 9, 0, 2);
        due.ways("a bad row", x, 0, 1, 2, 3, 1);
    }

    /** Promise 5: "A ROW is missing from now on: how many ITEMS it had." */
    private static void dropTellsHowMany() {
        DialTown x = Due.of(TOWN);
        for (int n : new int[] {0, 1, 40}) {
            x.row(6, 1, n);
            due.is("drop of " + n, x.drop(6), n);
            due.is("it is missing", x.drop(6), Due.NULL);
            due.is("set in it", x.set(6, 0, 1), Due.NULL);
            due.is("copy of it", x.copy(6, 0, 6, 0, 0), Due.NULL);
            due.is("check by it", x.check(0, 0, 6, 0, 0, 0), Due.NULL);
        }
        x.row(5, 1, 3);
        x.row(6, 1, 4);
        x.row(7, 1, 5);
        due.is("drop of the middle", x.drop(6), 4);
        due.is("the one ahead stays", x.set(5, 2, 1), 1);
        due.is("the one behind stays", x.set(7, 4, 1), 1);
        due.is("two are left", x.count(0), 2);
    }
}
