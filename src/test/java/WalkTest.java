/** Promises 18 to 20: errands, checks of walks, thieves. */
public final class WalkTest {
    private static final int MIN = Integer.MIN_VALUE, MAX = Integer.MAX_VALUE;
    /** Shop 0 is open in slots 28 to 44, shop 1 in all, shop 2 (eight cells from shop 0) in 36 only. */
    private static final String TOWN = "tower 4 4 4; wall 0 8; shop dark 4 3 1; shop sunny 0 0 1; shop mass 7 8 1;";
    private static final Due due = new Due();

    public static void main(String[] args) {
        noTown();
        errands();
        errandsAboutWalls();
        errandsAreRefused();
        checks();
        checksOfShops();
        checksAreRefused();
        thieves();
        thievesAreRefused();
        due.end();
    }

    private static void noTown() {
        DialTown x = new DialTown();
        due.is("soonest", x.soonest(99, 99, 99), Due.STATE);
        due.is("check", x.check(99, 99, 99, 99, 99, 99), Due.STATE);
        due.is("thief", x.thief(99, 99, 99, 99), Due.STATE);
    }

    private static void errands() {
        DialTown x = Due.of(TOWN);
        due.is("waits until it opens", x.soonest(31, 0, 1), 28);
        due.is("is there as it opens", x.soonest(31, 28, 1), 0);
        due.is("is there as it closes", x.soonest(31, 44, 1), 0);
        due.is("is there too late", x.soonest(31, 45, 1), Due.NONE);
        due.is("comes as it closes", x.soonest(22, 43, 1), 1);
        due.is("comes too late", x.soonest(22, 44, 1), Due.NONE);
        due.is("none is told", x.soonest(8, 50, 0), 0);
        due.is("the last slot", x.soonest(0, 72, 2), 0);
        due.is("beyond the last slot", x.soonest(1, 72, 2), Due.NONE);
        due.is("one step in the last", x.soonest(1, 71, 2), 1);
        due.is("mass", x.soonest(79, 0, 4), 36);
        due.is("dark, then mass", x.soonest(31, 0, 5), 36);
        due.is("dark, then mass", x.soonest(31, 28, 5), 8);
        due.is("neither first", x.soonest(31, 29, 5), Due.NONE);
        due.is("mass, then dark", x.soonest(79, 36, 5), 8);
        due.is("from beside the mass", x.soonest(78, 35, 5), 9);
        due.is("mass is over", x.soonest(79, 37, 5), Due.NONE);
        due.is("sunny, dark, mass", x.soonest(0, 0, 7), 36);
        due.is("sunny, dark, mass", x.soonest(0, 21, 7), 15);
        due.is("sunny last", x.soonest(31, 28, 7), 23);
        due.is("at the tower", x.soonest(40, 0, 0), Due.NONE);
        due.is("at a wall", x.soonest(72, 0, 1), Due.NONE);
        x.cloud(36, 1);
        due.is("a holiday", x.soonest(79, 0, 4), Due.NONE);
        due.is("none is told on a holiday", x.soonest(79, 36, 0), 0);
        x.cloud(28, 1);
        due.is("a cloud", x.soonest(31, 0, 1), 29);
    }

    private static void errandsAboutWalls() {
        DialTown x = Due.of("tower 4 4 4; wall 1 0; wall 0 1; shop sunny 0 0 1; shop sunny 2 0 1; shop sunny 8 8 1;");
        due.is("walled in", x.soonest(0, 0, 2), Due.NONE);
        due.is("walled off", x.soonest(2, 0, 1), Due.NONE);
        due.is("at home", x.soonest(0, 5, 1), 0);
        DialTown detour = Due.of("tower 1 1 1; wall 1 0; shop sunny 0 0 1; shop sunny 2 0 1;");
        due.is("about the tower", detour.soonest(0, 1, 3), 6);
        due.is("about the tower, from the shadow", detour.soonest(0, 0, 3), 7);
        DialTown straight = Due.of("tower 8 8 1; shop sunny 0 0 1; shop sunny 2 0 1; shop dark 1 0 1;");
        due.is("through a shop", straight.soonest(0, 0, 3), 2);
        due.is("from between", straight.soonest(1, 0, 3), 3);
    }

    private static void errandsAreRefused() {
        DialTown x = Due.of(TOWN);
        int[][] bad = {{-1, 0, 0}, {81, 0, 0}, {0, -1, 0}, {0, 73, 0}, {0, 0, -1}, {0, 0, 8}, {40, 0, 8}, {40, 73, 0},
            {MIN, 0, 0}, {MAX, 0, 0}, {0, MIN, 0}, {0, MAX, 0}, {0, 0, MIN}, {0, 0, MAX}};
        for (int[] a : bad) {
            due.is("bad soonest", x.soonest(a[0], a[1], a[2]), Due.BAD);
        }
        due.is("all shops", x.soonest(0, 0, 7), 36);
    }

    private static void checks() {
        DialTown x = Due.of(TOWN);
        Due.row(x, 0, 0, 1, 2, 3, 4, 0, 0, 0, 5, -1);
        due.is("round and north, off the town", x.check(19, 0, 0, 0, 8, 0), 8);
        due.is("all but the last", x.check(19, 0, 0, 0, 7, 0), 0);
        due.is("from item 5 on", x.check(19, 0, 0, 5, 3, 0), 3);
        due.is("none", x.check(19, 0, 0, 0, 0, 0), 0);
        due.is("none at the end", x.check(19, 0, 0, 10, 0, 0), 0);
        due.is("a way that is none", x.check(19, 0, 0, 8, 1, 0), 1);
        due.is("a way below 0", x.check(19, 0, 0, 9, 1, 0), 1);
        due.is("into the tower", x.check(49, 0, 0, 0, 1, 0), 1);
        due.is("west, off the town", x.check(18, 0, 0, 3, 1, 0), 1);
        due.is("east, off the town", x.check(26, 0, 0, 1, 1, 0), 1);
        due.is("south, off the town", x.check(80, 0, 0, 2, 1, 0), 1);
        due.is("north, off the town", x.check(8, 0, 0, 0, 1, 0), 1);
        due.is("west into a wall", x.check(73, 0, 0, 3, 1, 0), 1);
        due.is("to stay", x.check(73, 0, 0, 4, 1, 0), 0);
        due.is("up to slot 72", x.check(19, 65, 0, 0, 7, 0), 0);
        due.is("beyond slot 72", x.check(19, 66, 0, 0, 7, 0), Due.BAD);
        due.is("none in slot 72", x.check(19, 72, 0, 0, 0, 0), 0);
        x.row(1, 0, 40);
        for (int i = 0; i < 40; i++) {
            x.set(1, i, 4);
        }
        due.is("40 steps", x.check(19, 32, 1, 0, 40, 0), 0);
        due.is("40 steps too late", x.check(19, 33, 1, 0, 40, 0), Due.BAD);
    }

    private static void checksOfShops() {
        DialTown x = Due.of("tower 4 4 4; shop dark 4 3 1; shop sunny 5 3 1; shop sunny 6 3 1;");
        Due.row(x, 0, 1, 1, 9, 3, 3);
        due.is("from shop 0 as it is open", x.check(31, 28, 0, 0, 2, 1), 7);
        due.is("from shop 0 as it is closed", x.check(31, 27, 0, 0, 2, 1), 6);
        due.is("one step", x.check(31, 28, 0, 0, 1, 1), 3);
        due.is("no step", x.check(31, 28, 0, 0, 0, 1), 1);
        due.is("as far as he came", x.check(30, 28, 0, 0, 4, 1), 3);
        due.is("the step that cannot be", x.check(30, 28, 0, 0, 4, 0), 3);
        due.is("he comes as it opens", x.check(33, 26, 0, 3, 2, 1), 7);
        due.is("he comes ahead of that", x.check(33, 25, 0, 3, 2, 1), 6);
        // 32 lies in the shadow from slot 45 to 53
        due.is("sunny in the shadow", x.check(31, 44, 0, 0, 2, 1), 5);
        x.cloud(28, 1);
        due.is("a cloud", x.check(31, 28, 0, 0, 2, 1), 6);
    }

    private static void checksAreRefused() {
        DialTown x = Due.of(TOWN);
        Due.row(x, 0, 4, 4, 4);
        int[][] bad = {{-1, 0, 0, 0, 1, 0}, {81, 0, 0, 0, 1, 0}, {40, 0, 0, 0, 1, 0}, {72, 0, 0, 0, 1, 0},
            {0, -1, 0, 0, 1, 0}, {0, 73, 0, 0, 0, 0}, {0, 72, 0, 0, 1, 0}, {0, 0, -1, 0, 1, 0}, {0, 0, 8, 0, 1, 0},
            {0, 0, 0, 0, -1, 0}, {0, 0, 0, 0, 41, 0}, {0, 0, 0, 0, 1, -1}, {0, 0, 0, 0, 1, 2}, {0, 0, 5, 0, 1, 2},
            {0, 0, 5, -1, 41, 0}, {MIN, 0, 0, 0, 1, 0}, {MAX, 0, 0, 0, 1, 0}, {0, MIN, 0, 0, 1, 0},
            {0, MAX, 0, 0, 1, 0}, {0, 0, MIN, 0, 1, 0}, {0, 0, MAX, 0, 1, 0}, {0, 0, 0, 0, MIN, 0},
            {0, 0, 0, 0, MAX, 0}, {0, 0, 0, 0, 1, MIN}, {0, 0, 0, 0, 1, MAX}};
        for (int[] a : bad) {
            due.is("bad check", x.check(a[0], a[1], a[2], a[3], a[4], a[5]), Due.BAD);
        }
        due.is("status", x.status(), 0);
        due.is("a missing row, no place", x.check(0, 0, 5, -1, 1, 0), Due.NULL);
        for (int[] a : new int[][] {{-1, 1}, {0, 4}, {1, 3}, {3, 1}, {4, 0}, {MIN, 1}, {MAX, 1}}) {
            due.is("no place", x.check(0, 0, 0, a[0], a[1], 0), Due.PLACE);
            due.is("no place, as of shops", x.check(0, 0, 0, a[0], a[1], 1), Due.PLACE);
        }
        x.set(0, 0, 9);
        due.is("no place beyond a step that cannot be", x.check(0, 0, 0, 0, 4, 0), Due.PLACE);
        due.is("status", x.status(), 2);
    }

    private static void thieves() {
        DialTown x = Due.of(TOWN);
        due.is("there as it opens", x.thief(31, 27, 31, 28), 1);
        due.is("gone ahead of it", x.thief(31, 0, 31, 7), 0);
        due.is("there as it closes", x.thief(31, 44, 31, 46), 1);
        due.is("there after it", x.thief(31, 45, 31, 52), 0);
        due.is("in one slot", x.thief(31, 30, 31, 30), 1);
        due.is("straight", x.thief(0, 0, 8, 8), 2);
        due.is("too fast", x.thief(0, 0, 8, 7), Due.NONE);
        due.is("too fast in the afternoon", x.thief(0, 40, 8, 47), Due.NONE);
        due.is("with a step to spare", x.thief(1, 10, 2, 12), 0);
        due.is("with two more", x.thief(1, 10, 2, 13), 2);
        due.is("dark and mass", x.thief(31, 28, 79, 36), 5);
        due.is("sunny or mass", x.thief(71, 34, 71, 38), 4);
        due.is("mass is too far", x.thief(70, 36, 70, 40), 0);
        due.is("mass is near", x.thief(70, 35, 70, 37), 4);
        due.is("all day", x.thief(0, 0, 0, 72), 7);
        due.is("either of two", x.thief(27, 29, 31, 43), 3);
        due.is("each, though not both", x.thief(78, 35, 78, 37), 4);
        due.is("each, though not both", x.thief(18, 20, 31, 32), 3);
        due.is("each, though not both", x.thief(4, 28, 4, 36), 3);
        due.is("from the tower", x.thief(40, 0, 31, 72), Due.NONE);
        due.is("to the tower", x.thief(31, 0, 40, 72), Due.NONE);
        due.is("from a wall", x.thief(72, 0, 31, 72), Due.NONE);
        due.is("to a wall", x.thief(31, 0, 72, 72), Due.NONE);
        due.is("stays at the tower", x.thief(40, 0, 40, 0), Due.NONE);
        x.cloud(36, 1);
        due.is("a cloud at mass", x.thief(70, 35, 70, 37), 0);
        DialTown walled = Due.of("tower 4 4 4; wall 1 0; wall 0 1; shop sunny 0 0 1; shop sunny 2 0 1;");
        due.is("walled in", walled.thief(0, 0, 0, 72), 1);
        due.is("walled off", walled.thief(2, 0, 2, 72), 2);
        due.is("cannot come there", walled.thief(0, 0, 2, 72), Due.NONE);
    }

    private static void thievesAreRefused() {
        DialTown x = Due.of(TOWN);
        int[][] bad = {{-1, 0, 0, 0}, {81, 0, 0, 0}, {0, -1, 0, 0}, {0, 73, 0, 73}, {0, 0, -1, 0}, {0, 0, 81, 0},
            {0, 0, 0, -1}, {0, 0, 0, 73}, {0, 5, 0, 4}, {40, 5, 40, 4}, {MIN, 0, 0, 0}, {MAX, 0, 0, 0},
            {0, MIN, 0, 0}, {0, MAX, 0, MAX}, {0, 0, MIN, 0}, {0, 0, MAX, 0}, {0, 0, 0, MIN}, {0, 0, 0, MAX}};
        for (int[] a : bad) {
            due.is("bad thief", x.thief(a[0], a[1], a[2], a[3]), Due.BAD);
        }
    }
}
