/** Promises 9 to 14, 16 and 17: season, lean, clouds, shops more and undone, what is open, rents. */
public final class TownTest {
    private static final int MIN = Integer.MIN_VALUE, MAX = Integer.MAX_VALUE;
    private static final Due due = new Due();

    public static void main(String[] args) {
        noTown();
        seasons();
        leans();
        clouds();
        draws();
        shopsMore();
        shopsUndone();
        shopsOpen();
        rents();
        due.end();
    }

    private static void noTown() {
        DialTown x = new DialTown();
        due.is("season", x.season(9), Due.STATE);
        due.is("lean", x.lean(9, 9), Due.STATE);
        due.is("cloud", x.cloud(99, 9), Due.STATE);
        due.is("draw", x.draw(0, 101), Due.STATE);
        due.is("more", x.more(9, 99, 100), Due.STATE);
        due.is("undo", x.undo(), Due.STATE);
        due.is("shadow", x.shadow(99, 99), Due.STATE);
        due.is("open", x.open(99), Due.STATE);
        due.is("shop", x.shop(0, 0), Due.BAD);
        due.is("count(4)", x.count(4), 0);
    }

    private static void seasons() {
        DialTown x = Due.of("tower 4 4 4;");
        due.is("season(6)", x.season(6), 1);
        due.is("season(1)", x.season(1), 6);
        due.is("season(4)", x.season(4), 1);
        for (int bad : new int[] {0, 7, -1, MIN, MAX}) {
            due.is("bad season", x.season(bad), Due.BAD);
        }
        due.is("count(4)", x.count(4), 4);
    }

    private static void leans() {
        DialTown x = Due.of("tower 4 4 4;");
        due.is("lean(3, 3)", x.lean(3, 3), 1);
        due.is("lean(-3, -3)", x.lean(-3, -3), 1);
        due.is("lean(1, 0)", x.lean(1, 0), 1);
        for (int bad : new int[] {4, -4, MIN, MAX}) {
            due.is("bad east", x.lean(bad, 0), Due.BAD);
            due.is("bad north", x.lean(0, bad), Due.BAD);
        }
        due.is("the lean stays", x.shadow(36, 32), 1);
    }

    private static void clouds() {
        DialTown x = Due.of("tower 4 4 4; shop sunny 0 0 1;");
        due.is("cloud(0, 0)", x.cloud(0, 0), 0);
        due.is("cloud(0, 1)", x.cloud(0, 1), 0);
        due.is("cloud(0, 1)", x.cloud(0, 1), 1);
        due.is("cloud(72, 1)", x.cloud(72, 1), 0);
        due.is("count(3)", x.count(3), 2);
        due.is("open(0)", x.open(0), 0);
        due.is("open(1)", x.open(1), 1);
        due.is("open(72)", x.open(72), 0);
        due.is("the shadow stays", x.shadow(0, 39), 1);
        int[][] bad = {{-1, 0}, {73, 0}, {0, -1}, {0, 2}, {MIN, 1}, {MAX, 1}, {0, MIN}, {0, MAX}};
        for (int[] a : bad) {
            due.is("bad cloud", x.cloud(a[0], a[1]), Due.BAD);
        }
        due.is("cloud(0, 0)", x.cloud(0, 0), 1);
        due.is("count(3)", x.count(3), 1);
        due.is("open(0)", x.open(0), 1);
    }

    /** Of the seed 1 come 16807, 282475249, 1622650073, 984943658, 1144108930, 470211272, 101027544. */
    private static void draws() {
        DialTown x = Due.of("tower 4 4 4;");
        due.is("draw(1, 100)", x.draw(1, 100), 73);
        due.is("count(3)", x.count(3), 73);
        due.is("draw(1, 0)", x.draw(1, 0), 0);
        due.is("count(3)", x.count(3), 0);
        x.draw(1, 7);
        due.is("7 is not below 7", x.cloud(0, 0), 0);
        x.draw(1, 8);
        due.is("7 is below 8", x.cloud(0, 0), 1);
        int[] rests = {7, 49, 73, 58, 30, 72, 44};
        int drawn = x.draw(1, 50);
        due.is("as many as count(3)", x.count(3), drawn);
        for (int slot = 0; slot < rests.length; slot++) {
            due.is("cloud by rest " + rests[slot], x.cloud(slot, 0), rests[slot] < 50 ? 1 : 0);
        }
        due.is("draw(1, 50) again", x.draw(1, 50), drawn);
        int[][] bad = {{0, 50}, {1000000, 50}, {-1, 50}, {1, -1}, {1, 101}, {MIN, 1}, {MAX, 1}, {1, MIN}, {1, MAX}};
        for (int[] a : bad) {
            due.is("bad draw", x.draw(a[0], a[1]), Due.BAD);
        }
        due.is("clouds stay", x.count(3), drawn);
        due.is("draw(999999, 100)", x.draw(999999, 100), 73);
    }

    private static void shopsMore() {
        DialTown x = Due.of("tower 4 4 4; wall 0 1; shop noon 1 1 5;");
        due.is("more(4, 0, 0)", x.more(4, 0, 0), 1);
        due.is("kind", x.kind(1), 5);
        due.is("more(3, 80, 99)", x.more(3, 80, 99), 2);
        due.is("cell", x.shop(2, 0), 80);
        due.is("rent", x.shop(2, 1), 99);
        int[][] bad = {{-1, 1, 0}, {5, 1, 0}, {0, -1, 0}, {0, 81, 0}, {0, 1, -1}, {0, 1, 100}, {0, 40, 0},
            {0, 9, 0}, {0, 10, 0}, {0, 0, 0}, {0, 80, 0}, {MIN, 1, 0}, {MAX, 1, 0}, {0, MIN, 0}, {0, MAX, 0},
            {0, 1, MIN}, {0, 1, MAX}};
        for (int[] a : bad) {
            due.is("bad shop", x.more(a[0], a[1], a[2]), Due.BAD);
        }
        for (int shop = 3; shop < 8; shop++) {
            due.is("more", x.more(shop - 3, 18 + shop, shop), shop);
            due.is("kind", x.kind(shop), new int[] {1, 4, 2, 3, 5}[shop - 3]);
        }
        due.is("a ninth", x.more(0, 1, 0), Due.FULL);
        due.is("a ninth, bad", x.more(5, 1, 0), Due.BAD);
        due.is("a ninth where one is", x.more(0, 80, 0), Due.BAD);
        due.is("count(1)", x.count(1), 8);
    }

    private static void shopsUndone() {
        DialTown x = Due.of("tower 4 4 4; shop dark 4 3 5; shop sunny 0 0 5;");
        due.is("more", x.more(2, 1, 1), 2);
        due.is("undo", x.undo(), 2);
        due.is("gone", x.shop(2, 0), Due.BAD);
        due.is("told by a text, too", x.undo(), 1);
        due.is("gone", x.shop(1, 0), Due.BAD);
        due.is("the first stays", x.shop(0, 0), 31);
        due.is("its cell is free", x.more(3, 0, 7), 1);
        due.is("it is the new one", x.kind(1), 3);
        due.is("undo", x.undo(), 1);
        due.is("undo", x.undo(), 0);
        due.is("no more", x.undo(), Due.STATE);
        due.is("count(1)", x.count(1), 0);
        due.is("open", x.open(36), 0);
    }

    private static void shopsOpen() {
        openAt("dark 4 3", 28, 44);
        openAt("dark 3 4", 0, 18);
        openAt("dark 0 0", 1, 0);
        openAt("sunny 4 3", 0, 27, 45, 72);
        openAt("sunny 0 0", 0, 72);
        openAt("noon 4 3", 30, 42);
        openAt("noon 3 4", 1, 0);
        openAt("mass 4 3", 30, 42);
        openAt("mass 3 4", 36, 36);
        openAt("lamp 4 3", 0, 11, 61, 72);
        openAt("lamp 3 4", 61, 72);
        openAt("lamp 5 4", 0, 11);
        DialTown x = Due.of("tower 4 4 4; shop dark 4 3 1; shop sunny 4 2 1;");
        due.is("open(36)", x.open(36), 3);
        due.is("open(27)", x.open(27), 2);
        x.season(2);
        due.is("open(27)", x.open(27), 3);
        due.is("open(36)", x.open(36), 1);
        x.cloud(36, 1);
        due.is("open(36)", x.open(36), 0);
        for (int bad : new int[] {-1, 73, MIN, MAX}) {
            due.is("bad slot", x.open(bad), Due.BAD);
        }
    }

    /** A shop of tower 4 4 4 in season 1 is open in the slots of these pairs, from the first to the second. */
    private static void openAt(String shop, int... slots) {
        DialTown x = Due.of("tower 4 4 4; shop " + shop + " 3;");
        int open = 0;
        for (int slot = 0; slot <= 72; slot++) {
            int want = 0;
            for (int i = 0; i + 1 < slots.length; i += 2) {
                want = slot >= slots[i] && slot <= slots[i + 1] ? 1 : want;
            }
            due.is("open(" + slot + ") of " + shop, x.open(slot), want);
            open += want;
        }
        due.is("slots of " + shop, x.shop(0, 2), open);
        due.is("rents of " + shop, x.shop(0, 3), 3 * open);
    }

    private static void rents() {
        DialTown x = Due.of("tower 4 4 4; shop dark 4 3 2; shop mass 0 8 99;");
        // by season: 17, 35, 53, 71, 73, 73
        due.is("of a year", x.shop(0, 4), 2 * 322);
        due.is("of a year", x.shop(1, 4), 6 * 99);
        x.cloud(36, 1);
        x.cloud(0, 1);
        due.is("slots less the clouded", x.shop(0, 2), 16);
        due.is("rents less the clouded", x.shop(0, 3), 32);
        due.is("mass", x.shop(1, 2), 0);
        due.is("a year is without clouds", x.shop(0, 4), 2 * 322);
        due.is("clouds stay", x.count(3), 2);
        x.season(2);
        due.is("slots in season 2", x.shop(0, 2), 34);
        due.is("a year is of all seasons", x.shop(0, 4), 2 * 322);
        due.is("the season stays", x.count(4), 2);
        x.season(1);
        x.lean(0, 1);
        due.is("a year as it leans", x.shop(0, 4), 2 * (322 - 17 + 73));
        due.is("the lean stays", x.shop(0, 2), 34);
        int[][] bad = {{-1, 0}, {2, 0}, {0, -1}, {0, 5}, {MIN, 0}, {MAX, 0}, {0, MIN}, {0, MAX}};
        for (int[] a : bad) {
            due.is("bad shop", x.shop(a[0], a[1]), Due.BAD);
        }
    }
}
