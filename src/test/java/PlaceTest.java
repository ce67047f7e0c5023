/** Promises 21 to 25: where a shop is open longest, bills, leans, images. */
public final class PlaceTest {
    private static final int MIN = Integer.MIN_VALUE, MAX = Integer.MAX_VALUE;
    private static final Due due = new Due();

    public static void main(String[] args) {
        noTown();
        longest();
        longestIsRefused();
        bills();
        leans();
        images();
        imagesAreRefused();
        due.end();
    }

    private static void noTown() {
        DialTown x = new DialTown();
        due.is("longest", x.longest(9, 9), Due.STATE);
        due.is("bills", x.bills(99, 99), Due.STATE);
        due.is("leans", x.leans(0, 0, 0), Due.BAD);
        due.is("image", x.image(0), Due.STATE);
        due.is("image, bad", x.image(2), Due.BAD);
        due.is("restore", x.restore(1), Due.STATE);
        due.is("restore, bad", x.restore(-1), Due.BAD);
    }

    private static void longest() {
        DialTown x = Due.of("tower 4 4 4;");
        isLongest(x, 0, 39, 19);
        isLongest(x, 1, 0, 73);
        isLongest(x, 2, 31, 13);
        isLongest(x, 3, 31, 13);
        isLongest(x, 4, 0, 24);
        x.more(0, 39, 1);
        isLongest(x, 0, 41, 19);
        x.more(0, 41, 1);
        isLongest(x, 0, 31, 17);
        x.cloud(36, 1);
        isLongest(x, 0, 31, 16);
        isLongest(x, 1, 0, 72);
        isLongest(x, 3, 31, 12);
        x.draw(1, 100);
        isLongest(x, 0, 0, 0);
        isLongest(x, 4, 0, 0);
        DialTown walled = Due.of("tower 1 0 4; wall 0 0; wall 3 0; shop sunny 2 0 1;");
        isLongest(walled, 1, 4, 73);
        // tower 1 0: north is no town, so none but a mass at noon is open anywhere about noon
        isLongest(walled, 2, 4, 0);
        isLongest(walled, 3, 4, 1);
    }

    private static void isLongest(DialTown x, int sort, int cell, int slots) {
        due.is("longest(" + sort + ", 0)", x.longest(sort, 0), cell);
        due.is("longest(" + sort + ", 1)", x.longest(sort, 1), slots);
    }

    private static void longestIsRefused() {
        DialTown x = Due.of("tower 4 4 4;");
        for (int[] a : new int[][] {{-1, 0}, {5, 0}, {0, -1}, {0, 2}, {MIN, 0}, {MAX, 0}, {0, MIN}, {0, MAX}}) {
            due.is("bad longest", x.longest(a[0], a[1]), Due.BAD);
        }
    }

    private static void bills() {
        DialTown x = Due.of("tower 4 4 4; shop dark 4 3 1; shop sunny 0 8 1;");
        // the cell 31 is in the shadow of slot 18 from season 3 on
        due.is("dark and sunny", x.bills(18, 3), 8 + 16 + 32 + 64);
        due.is("sunny alone", x.bills(18, 2), 2 + 4);
        due.is("dark alone", x.bills(18, 1), 0);
        due.is("none", x.bills(18, 0), 0);
        due.is("at noon", x.bills(36, 3), 126);
        due.is("first slot", x.bills(0, 3), 32 + 64);
        due.is("last slot", x.bills(72, 2), 2 + 4 + 8 + 16);
        x.draw(1, 100);
        x.season(4);
        due.is("without clouds", x.bills(18, 3), 8 + 16 + 32 + 64);
        due.is("clouds stay", x.count(3), 73);
        due.is("season stays", x.count(4), 4);
        x.lean(0, 1);
        due.is("as it leans", x.bills(18, 3), 4 + 8 + 16 + 32 + 64);
        int[][] bad = {{-1, 0}, {73, 0}, {0, -1}, {0, 4}, {MIN, 0}, {MAX, 0}, {0, MIN}, {0, MAX}};
        for (int[] a : bad) {
            due.is("bad bills", x.bills(a[0], a[1]), Due.BAD);
        }
        due.is("no shops", Due.of("tower 4 4 4;").bills(0, 0), 126);
    }

    private static void leans() {
        DialTown x = Due.of("tower 4 4 4; shop dark 4 3 1; shop sunny 8 8 1;");
        due.is("as it is", x.leans(0, 0, 0), 0);
        due.is("one east", x.leans(0, 1, 0), 9 - 17);
        due.is("one north", x.leans(0, 0, 1), 35 - 17);
        due.is("three south", x.leans(0, 0, -3), -17);
        due.is("sunny", x.leans(1, 1, 0), 0);
        due.is("it does not lean", x.shop(0, 2), 17);
        x.cloud(36, 1);
        due.is("clouds hide both", x.leans(0, 0, 1), 34 - 16);
        due.is("a cloud hides one", x.leans(0, 1, 0), 9 - 16);
        x.lean(0, 1);
        due.is("less than it leans", x.leans(0, 0, 0), 16 - 34);
        x.season(2);
        due.is("by the season", x.leans(0, 0, 0), 34 - 52);
        due.is("the lean stays", x.shop(0, 2), 52);
        int[][] bad = {{-1, 0, 0}, {2, 0, 0}, {0, 4, 0}, {0, -4, 0}, {0, 0, 4}, {0, 0, -4}, {MIN, 0, 0}, {MAX, 0, 0},
            {0, MIN, 0}, {0, MAX, 0}, {0, 0, MIN}, {0, 0, MAX}};
        for (int[] a : bad) {
            due.is("bad leans", x.leans(a[0], a[1], a[2]), Due.BAD);
        }
    }

    private static void images() {
        DialTown x = Due.of("tower 4 4 4; wall 1 1; shop dark 4 3 7;");
        x.season(2);
        x.lean(0, 1);
        x.cloud(5, 1);
        due.is("image(0)", x.image(0), 1);
        due.is("restore(1)", x.restore(1), Due.STATE);
        int slots = x.shop(0, 2);
        x.season(6);
        x.lean(3, 3);
        x.draw(7, 50);
        x.undo();
        x.more(4, 31, 3);
        x.more(1, 30, 3);
        due.is("image(1)", x.image(1), 1);
        x.row(3, 1, 2);
        due.is("restore(0)", x.restore(0), 1);
        due.is("shops", x.count(1), 1);
        due.is("walls", x.count(2), 1);
        due.is("clouds", x.count(3), 1);
        due.is("season", x.count(4), 2);
        due.is("rows stay", x.count(0), 1);
        due.is("kind", x.kind(0), 1);
        due.is("rent", x.shop(0, 1), 7);
        due.is("slots", x.shop(0, 2), slots);
        due.is("lean", x.leans(0, 0, 1), 0);
        due.is("a cell is free again", x.more(0, 30, 0), 1);
        due.is("a wall is none", x.more(0, 10, 0), Due.BAD);
        due.is("restore(0) again", x.restore(0), 1);
        due.is("the image is as it was", x.count(1), 1);
        due.is("restore(1)", x.restore(1), 1);
        due.is("shops", x.count(1), 2);
        due.is("kind", x.kind(0), 5);
        due.is("season", x.count(4), 6);
        Due.read(x, "tower 0 0 8;");
        due.is("another town", x.count(1), 0);
        due.is("image(1) of it", x.image(1), 1);
        due.is("restore(0) over it", x.restore(0), 1);
        due.is("its tower", x.shadow(0, 40), 1);
        due.is("restore(1) of it", x.restore(1), 1);
        due.is("its tower", x.shadow(0, 0), 1);
        due.is("its reach", x.shadow(72, 7), 1);
        due.is("no walls", x.count(2), 0);
    }

    private static void imagesAreRefused() {
        DialTown x = Due.of("tower 4 4 4;");
        for (int bad : new int[] {-1, 2, MIN, MAX}) {
            due.is("bad image", x.image(bad), Due.BAD);
            due.is("bad restore", x.restore(bad), Due.BAD);
        }
        due.is("none was kept", x.restore(0), Due.STATE);
        due.is("none was kept", x.restore(1), Due.STATE);
        due.is("the town stays", x.count(4), 1);
    }
}
