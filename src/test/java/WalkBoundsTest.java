/** Part 3 of the terms and promises 18 to 20: errands, checks and thieves, each to its bounds. */
public final class WalkBoundsTest {
    private static final int MIN = Integer.MIN_VALUE, MAX = Integer.MAX_VALUE;
    /** Season 1: cell 31 is in the shadow in slots 28 to 44; masses off it are open in slot 36 alone. */
    private static final String TOWER = "tower 4 4 4;";
    private static final Due due = new Due();

    public static void main(String[] args) {
        soonestNumbers();
        soonestSets();
        soonestWhereNobodyCanBe();
        soonestByTheLastSlot();
        soonestInTheFirstSlot();
        soonestWaits();
        soonestInAnyOrder();
        soonestOfEight();
        soonestAboutWalls();
        soonestUnderClouds();
        checkNumbers();
        checkUpToTheLastSlot();
        checkWhereNobodyCanBe();
        checkPlaces();
        checkEachWay();
        checkWaysThatAreNone();
        checkOffTheTown();
        checkIntoTheTower();
        checkIntoAWall();
        checkTheFirstOfSeveral();
        checkShopsInOpenSlots();
        checkAsFarAsHeCame();
        checkUnderClouds();
        thiefNumbers();
        thiefNoEarlier();
        thiefJustInTime();
        thiefWhereNobodyCanBe();
        thiefInBothSlots();
        thiefBetween();
        thiefEachShopAlone();
        thiefBehindWalls();
        thiefOfEight();
        shopsThatAreGone();
        due.end();
    }

    private static String sunnyLine(int many) {
        StringBuilder text = new StringBuilder("tower 4 4 1;");
        for (int shop = 0; shop < many; shop++) {
            text.append("shop sunny ").append(shop).append(" 8 1;");
        }
        return text.toString();
    }

    private static void soonestNumbers() {
        DialTown x = Due.of(TOWER);
        due.is("cell 0", x.soonest(0, 0, 0), 0);
        due.is("cell 80", x.soonest(80, 0, 0), 0);
        due.is("slot 72", x.soonest(0, 72, 0), 0);
        for (int cell : new int[] {-1, 81, MIN, MAX}) {
            due.is("cell " + cell, x.soonest(cell, 0, 0), Due.BAD);
        }
        for (int slot : new int[] {-1, 73, MIN, MAX}) {
            due.is("slot " + slot, x.soonest(0, slot, 0), Due.BAD);
        }
    }

    /** "SHOPS that there are not": the bit beside the last, for each number of shops. */
    private static void soonestSets() {
        for (int many = 0; many <= 8; many++) {
            DialTown x = Due.of(sunnyLine(many));
            due.is("none of " + many, x.soonest(72, 10, 0), 0);
            due.is("all of " + many, x.soonest(72, 10, (1 << many) - 1), Math.max(0, many - 1));
            due.is("one beyond " + many, x.soonest(72, 10, 1 << many), Due.BAD);
            due.is("all and one beyond " + many, x.soonest(72, 10, (2 << many) - 1), Due.BAD);
            for (int shops : new int[] {-1, 256, MIN, MAX}) {
                due.is("shops " + shops, x.soonest(72, 10, shops), Due.BAD);
            }
        }
    }

    /** "NONE: also where nobody can be". */
    private static void soonestWhereNobodyCanBe() {
        DialTown x = Due.of(TOWER + "wall 0 0;wall 8 8;shop sunny 0 8 1;");
        for (int cell : new int[] {40, 0, 80}) {
            due.is("none told, cell " + cell, x.soonest(cell, 0, 0), Due.NONE);
            due.is("one told, cell " + cell, x.soonest(cell, 0, 1), Due.NONE);
        }
        due.is("at a shop", x.soonest(72, 0, 0), 0);
    }

    /** "NONE: not by SLOT 72". */
    private static void soonestByTheLastSlot() {
        DialTown x = Due.of(TOWER + "shop sunny 0 8 1;");
        due.is("in slot 72", x.soonest(72, 72, 1), 0);
        due.is("a step away in slot 71", x.soonest(73, 71, 1), 1);
        due.is("a step away in slot 72", x.soonest(73, 72, 1), Due.NONE);
        due.is("eight steps away in slot 64", x.soonest(80, 64, 1), 8);
        due.is("eight steps away in slot 65", x.soonest(80, 65, 1), Due.NONE);
        due.is("all day from the far corner", x.soonest(8, 56, 1), 16);
        due.is("and too late", x.soonest(8, 57, 1), Due.NONE);
        DialTown mass = Due.of(TOWER + "shop mass 0 8 1;");
        due.is("mass in slot 36", mass.soonest(72, 36, 1), 0);
        due.is("mass is over", mass.soonest(72, 37, 1), Due.NONE);
        due.is("mass all morning", mass.soonest(72, 0, 1), 36);
        DialTown noon = Due.of(TOWER + "shop noon 4 3 1;");
        due.is("as it closes", noon.soonest(31, 42, 1), 0);
        due.is("closed", noon.soonest(31, 43, 1), Due.NONE);
    }

    /** "(the first SLOT too)". */
    private static void soonestInTheFirstSlot() {
        DialTown x = Due.of(TOWER + "shop mass 4 8 1;shop mass 5 8 1;");
        due.is("open as he is there", x.soonest(76, 36, 1), 0);
        due.is("the other is a step away, and closed then", x.soonest(76, 36, 2), Due.NONE);
        due.is("both in one slot", x.soonest(76, 0, 3), Due.NONE);
        DialTown sunny = Due.of(sunnyLine(2));
        due.is("the first and a step", sunny.soonest(72, 5, 3), 1);
        due.is("the second and a step", sunny.soonest(73, 5, 3), 1);
        due.is("a step and a step", sunny.soonest(74, 5, 3), 2);
    }

    private static void soonestWaits() {
        DialTown x = Due.of(TOWER + "shop dark 4 3 1;shop lamp 0 8 1;");
        due.is("until it opens", x.soonest(31, 0, 1), 28);
        due.is("from the slot ahead of it", x.soonest(31, 27, 1), 1);
        due.is("until the lamps are lit", x.soonest(72, 12, 2), 49);
        due.is("he comes as they are put out", x.soonest(73, 10, 2), 1);
        due.is("he comes too late for it", x.soonest(73, 11, 2), 50);
        due.is("dark, then lamp", x.soonest(31, 28, 3), 33);
        due.is("lamp, then dark", x.soonest(72, 0, 3), 28);
    }

    /** Whichever comes first: the shops are told as a set. */
    private static void soonestInAnyOrder() {
        DialTown x = Due.of("tower 8 0 1;shop sunny 2 8 1;shop sunny 0 8 1;shop sunny 6 8 1;");
        due.is("all of a line from its end", x.soonest(72, 5, 7), 6);
        due.is("all of a line from its other end", x.soonest(80, 5, 7), 8);
        due.is("from within, the nearer end first", x.soonest(74, 5, 7), 8);
        due.is("from within, the nearer end first", x.soonest(77, 5, 7), 7);
        due.is("the outer two", x.soonest(74, 5, 6), 8);
        due.is("one passed on the way is not needed", x.soonest(72, 5, 4), 6);
    }

    private static void soonestOfEight() {
        DialTown x = Due.of(sunnyLine(8));
        due.is("all from the end", x.soonest(72, 0, 255), 7);
        due.is("all from within", x.soonest(75, 0, 255), 10);
        due.is("all just in time", x.soonest(72, 65, 255), 7);
        due.is("all too late", x.soonest(72, 66, 255), Due.NONE);
        due.is("the last alone", x.soonest(72, 0, 128), 7);
    }

    private static void soonestAboutWalls() {
        String cage = "wall 0 7;wall 1 8;";
        DialTown x = Due.of(TOWER + cage + "shop sunny 0 8 1;shop sunny 8 8 1;");
        due.is("walled in", x.soonest(72, 0, 2), Due.NONE);
        due.is("walled in, at home", x.soonest(72, 0, 1), 0);
        due.is("walled off", x.soonest(80, 0, 1), Due.NONE);
        due.is("walled off, the other", x.soonest(80, 0, 2), 0);
        due.is("both", x.soonest(80, 0, 3), Due.NONE);
        DialTown round = Due.of("tower 1 8 1;shop sunny 0 8 1;shop sunny 2 8 1;");
        due.is("about the tower", round.soonest(74, 1, 1), 4);
        DialTown wall = Due.of("tower 8 0 1;wall 1 8;wall 1 7;shop sunny 0 8 1;");
        due.is("about two walls", wall.soonest(74, 1, 1), 6);
        DialTown through = Due.of("tower 8 0 1;shop sunny 0 8 1;shop mass 1 8 1;");
        due.is("through a shop", through.soonest(74, 1, 1), 2);
    }

    private static void soonestUnderClouds() {
        DialTown x = Due.of(sunnyLine(2));
        x.cloud(5, 1);
        due.is("a slot later", x.soonest(72, 5, 1), 1);
        due.is("a slot later for the second", x.soonest(72, 4, 3), 2);
        x.draw(1, 100);
        due.is("on a holiday", x.soonest(72, 0, 1), Due.NONE);
        due.is("none told on a holiday", x.soonest(72, 0, 0), 0);
        x.cloud(72, 0);
        due.is("the last slot alone", x.soonest(72, 0, 1), 72);
        due.is("the last slot has one shop", x.soonest(72, 0, 3), Due.NONE);
    }

    private static DialTown rowTown(String text, int... ways) {
        DialTown x = Due.of(text);
        Due.row(x, 0, ways);
        return x;
    }

    private static int[] stays(int n) {
        int[] ways = new int[n];
        java.util.Arrays.fill(ways, 4);
        return ways;
    }

    /** "BAD: CELL ..., SLOT and n ..., ROW, n, what": each alone. */
    private static void checkNumbers() {
        DialTown x = rowTown(TOWER, stays(40));
        due.is("cell 0", x.check(0, 0, 0, 0, 1, 0), 0);
        due.is("cell 80", x.check(80, 0, 0, 0, 1, 0), 0);
        due.is("none", x.check(80, 0, 0, 0, 0, 0), 0);
        due.is("40", x.check(80, 0, 0, 0, 40, 0), 0);
        due.is("shops", x.check(80, 0, 0, 0, 40, 1), 0);
        for (int cell : new int[] {-1, 81, MIN, MAX}) {
            due.is("cell " + cell, x.check(cell, 0, 0, 0, 1, 0), Due.BAD);
        }
        for (int slot : new int[] {-1, 73, MIN, MAX}) {
            due.is("slot " + slot, x.check(0, slot, 0, 0, 0, 0), Due.BAD);
            due.is("slot " + slot, x.check(0, slot, 0, 0, 1, 0), Due.BAD);
        }
        for (int row : new int[] {-1, 8, MIN, MAX}) {
            due.is("row " + row, x.check(0, 0, row, 0, 0, 0), Due.BAD);
        }
        for (int n : new int[] {-1, 41, MIN, MAX}) {
            due.is("n " + n, x.check(0, 0, 0, 0, n, 0), Due.BAD);
        }
        for (int what : new int[] {-1, 2, MIN, MAX}) {
            due.is("what " + what, x.check(0, 0, 0, 0, 1, what), Due.BAD);
        }
    }

    /** "SLOT and n above 72 together". */
    private static void checkUpToTheLastSlot() {
        DialTown x = rowTown(TOWER, stays(40));
        int[][] both = {{72, 0}, {71, 1}, {52, 20}, {33, 39}, {32, 40}};
        for (int[] a : both) {
            due.is("slot " + a[0] + " and " + a[1], x.check(0, a[0], 0, 0, a[1], 0), 0);
            due.is("slot " + a[0] + " and one more", x.check(0, a[0], 0, 0, a[1] + 1, 0), Due.BAD);
            due.is("a slot later and " + a[1], x.check(0, a[0] + 1, 0, 0, a[1], 0), Due.BAD);
        }
    }

    /** "(also one where nobody can be)". */
    private static void checkWhereNobodyCanBe() {
        DialTown x = rowTown(TOWER + "wall 0 0;wall 8 8;shop sunny 0 8 1;", 4);
        for (int cell : new int[] {40, 0, 80}) {
            due.is("one step from " + cell, x.check(cell, 0, 0, 0, 1, 0), Due.BAD);
            due.is("none from " + cell, x.check(cell, 0, 0, 0, 0, 1), Due.BAD);
        }
        due.is("at a shop", x.check(72, 0, 0, 0, 1, 0), 0);
    }

    /** PLACE: "ITEMS of a ROW from i on". */
    private static void checkPlaces() {
        DialTown x = rowTown(TOWER, 4, 4, 4);
        x.row(1, 0, 0);
        int[][] places = {{0, 3}, {1, 2}, {2, 1}, {3, 0}, {0, 0}, {0, 1}};
        for (int[] a : places) {
            due.is(a[1] + " from " + a[0], x.check(0, 0, 0, a[0], a[1], 0), 0);
            due.is("no finding", x.status(), 0);
        }
        int[][] none = {{-1, 1}, {-1, 0}, {0, 4}, {1, 3}, {2, 2}, {3, 1}, {4, 0}, {4, 1}, {MIN, 1}, {MAX, 1}, {MAX, 40}};
        for (int[] a : none) {
            due.is(a[1] + " from " + a[0], x.check(0, 0, 0, a[0], a[1], 0), Due.PLACE);
            due.is("shops by " + a[1] + " from " + a[0], x.check(0, 0, 0, a[0], a[1], 1), Due.PLACE);
            due.is("its finding", x.status(), 2);
        }
        due.is("none of a row of none", x.check(0, 0, 1, 0, 0, 0), 0);
        due.is("one of a row of none", x.check(0, 0, 1, 0, 1, 0), Due.PLACE);
    }

    /** "0 north, 1 east, 2 south, 3 west, 4 stays": told by the shop where he ends. */
    private static void checkEachWay() {
        String town = "tower 0 0 1;shop sunny 4 3 1;shop sunny 5 4 1;shop sunny 4 5 1;shop sunny 3 4 1;shop sunny 4 4 1;";
        for (int way = 0; way <= 4; way++) {
            DialTown x = rowTown(town, way);
            due.is("way " + way, x.check(40, 0, 0, 0, 1, 0), 0);
            due.is("where it ends", x.check(40, 0, 0, 0, 1, 1), 16 | 1 << way);
            x.cloud(0, 1);
            due.is("where it ends alone", x.check(40, 0, 0, 0, 1, 1), 1 << way);
        }
        DialTown round = rowTown(town, 0, 1, 2, 2, 3, 3, 0, 0);
        due.is("all about", round.check(40, 0, 0, 0, 8, 0), 0);
        due.is("what lies there", round.check(40, 0, 0, 0, 8, 1), 31);
    }

    /** "a way that is none". */
    private static void checkWaysThatAreNone() {
        DialTown x = rowTown(TOWER, 5, -1, 127, MIN, MAX, 256, 4);
        for (int i = 0; i <= 5; i++) {
            due.is("item " + i, x.check(30, 0, 0, i, 1, 0), 1);
        }
        due.is("the way behind them", x.check(30, 0, 0, 6, 1, 0), 0);
        DialTown bytes = Due.of(TOWER);
        Due.rowOf(bytes, 0, 0, 256, 260, 261, 255);
        due.is("a byte of 256 is north", bytes.check(30, 0, 0, 0, 1, 0), 0);
        due.is("a byte of 260 stays", bytes.check(30, 0, 0, 1, 1, 0), 0);
        due.is("a byte of 261 is none", bytes.check(30, 0, 0, 2, 1, 0), 1);
        due.is("a byte of 255 is none", bytes.check(30, 0, 0, 3, 1, 0), 1);
    }

    /** Each way at each side: of the cells of a side only the way off the town cannot be. */
    private static void checkOffTheTown() {
        int[][] corners = {{0, 0, 3}, {8, 0, 1}, {80, 2, 1}, {72, 2, 3}};
        for (int[] corner : corners) {
            DialTown x = rowTown(TOWER, 0, 1, 2, 3, 4);
            for (int way = 0; way <= 4; way++) {
                int want = way == corner[1] || way == corner[2] ? 1 : 0;
                due.is("way " + way + " from cell " + corner[0], x.check(corner[0], 0, 0, way, 1, 0), want);
            }
        }
        DialTown x = rowTown(TOWER, 0, 1, 2, 3, 4);
        for (int n = 0; n <= 8; n++) {
            due.is("north of " + n, x.check(n, 0, 0, 0, 1, 0), 1);
            due.is("east of line " + n, x.check(9 * n + 8, 0, 0, 1, 1, 0), 1);
            due.is("south of " + n, x.check(72 + n, 0, 0, 2, 1, 0), 1);
            due.is("west of line " + n, x.check(9 * n, 0, 0, 3, 1, 0), 1);
        }
    }

    private static void checkIntoTheTower() {
        DialTown x = rowTown(TOWER, 0, 1, 2, 3, 4);
        int[] from = {49, 39, 31, 41};
        for (int side = 0; side < 4; side++) {
            for (int way = 0; way <= 4; way++) {
                due.is("way " + way + " from cell " + from[side], x.check(from[side], 0, 0, way, 1, 0), way == side ? 1 : 0);
            }
        }
    }

    private static void checkIntoAWall() {
        DialTown x = rowTown("tower 0 0 1;wall 4 4;", 0, 1, 2, 3, 4);
        int[] from = {49, 39, 31, 41};
        for (int side = 0; side < 4; side++) {
            for (int way = 0; way <= 4; way++) {
                due.is("way " + way + " from cell " + from[side], x.check(from[side], 0, 0, way, 1, 0), way == side ? 1 : 0);
            }
        }
    }

    /** "the first that cannot be (what = 0: 1 on; ...; 0)". */
    private static void checkTheFirstOfSeveral() {
        DialTown x = rowTown(TOWER, 4, 4, 0, 9, 0);
        due.is("the third, fourth and fifth cannot", x.check(0, 0, 0, 0, 5, 0), 3);
        due.is("up to the second all can", x.check(0, 0, 0, 0, 2, 0), 0);
        due.is("the third is the last", x.check(0, 0, 0, 0, 3, 0), 3);
        due.is("it is the first from there on", x.check(0, 0, 0, 2, 3, 0), 1);
        due.is("from elsewhere the fourth", x.check(30, 0, 0, 0, 5, 0), 4);
        int[] ways = stays(40);
        ways[39] = 9;
        due.is("the fortieth", rowTown(TOWER, ways).check(0, 0, 0, 0, 40, 0), 40);
        due.is("39 can", rowTown(TOWER, ways).check(0, 0, 0, 0, 39, 0), 0);
    }

    /** "at which SHOPS he was in SLOTS in which they were OPEN": first and last slot, opening and closing. */
    private static void checkShopsInOpenSlots() {
        DialTown x = rowTown(TOWER + "shop noon 4 3 1;", 4, 4);
        due.is("none, ahead of it", x.check(31, 29, 0, 0, 0, 1), 0);
        due.is("none, as it opens", x.check(31, 30, 0, 0, 0, 1), 1);
        due.is("one, as it opens", x.check(31, 29, 0, 0, 1, 1), 1);
        due.is("one, ahead of it", x.check(31, 28, 0, 0, 1, 1), 0);
        due.is("two, as it opens", x.check(31, 28, 0, 0, 2, 1), 1);
        due.is("none, as it closes", x.check(31, 42, 0, 0, 0, 1), 1);
        due.is("two, as it closes", x.check(31, 42, 0, 0, 2, 1), 1);
        due.is("two, after it", x.check(31, 43, 0, 0, 2, 1), 0);
        due.is("beside it", x.check(32, 36, 0, 0, 2, 1), 0);
        DialTown by = rowTown(TOWER + "shop mass 0 8 1;shop sunny 1 8 1;shop sunny 2 8 1;", 1, 1, 4);
        due.is("all three", by.check(72, 36, 0, 0, 2, 1), 7);
        due.is("mass is over", by.check(72, 37, 0, 0, 2, 1), 6);
        due.is("only one step", by.check(72, 36, 0, 0, 1, 1), 3);
        due.is("in slot 72", by.check(72, 70, 0, 0, 2, 1), 6);
    }

    /** "(1; as far as he came)": what lies behind a step that cannot be, in place or in time, does not count. */
    private static void checkAsFarAsHeCame() {
        DialTown x = rowTown(TOWER + "shop sunny 0 8 1;shop sunny 1 8 1;shop sunny 2 8 1;", 1, 2, 1);
        due.is("the second step cannot be", x.check(72, 0, 0, 0, 3, 0), 2);
        due.is("shops up to it", x.check(72, 0, 0, 0, 3, 1), 3);
        due.is("shops up to it, told shorter", x.check(72, 0, 0, 0, 2, 1), 3);
        due.is("the first step cannot be", x.check(72, 0, 0, 1, 2, 1), 1);
        DialTown noon = rowTown(TOWER + "shop noon 4 3 1;", 9, 4);
        due.is("he is gone as it opens", noon.check(31, 29, 0, 0, 2, 1), 0);
        due.is("he was there as it was open", noon.check(31, 30, 0, 0, 2, 1), 1);
    }

    private static void checkUnderClouds() {
        DialTown x = rowTown(TOWER + "shop sunny 0 8 1;shop sunny 1 8 1;", 1, 4);
        x.cloud(5, 1);
        due.is("a cloud in the first slot", x.check(72, 5, 0, 0, 1, 1), 2);
        due.is("a cloud in the second slot", x.check(72, 4, 0, 0, 1, 1), 1);
        due.is("a cloud in the second slot, then none", x.check(72, 4, 0, 0, 2, 1), 3);
        due.is("steps can be under clouds", x.check(72, 4, 0, 0, 2, 0), 0);
    }

    private static void thiefNumbers() {
        DialTown x = Due.of(TOWER);
        due.is("cells 0 and 80", x.thief(0, 0, 80, 72), 0);
        due.is("cells 80 and 0", x.thief(80, 0, 0, 72), 0);
        due.is("slot 72", x.thief(80, 72, 80, 72), 0);
        due.is("slot 0", x.thief(80, 0, 80, 0), 0);
        for (int cell : new int[] {-1, 81, MIN, MAX}) {
            due.is("from cell " + cell, x.thief(cell, 0, 0, 72), Due.BAD);
            due.is("to cell " + cell, x.thief(0, 0, cell, 72), Due.BAD);
        }
        for (int slot : new int[] {-1, 73, MIN, MAX}) {
            due.is("from slot " + slot, x.thief(0, slot, 0, 72), Due.BAD);
            due.is("to slot " + slot, x.thief(0, 0, 0, slot), Due.BAD);
            due.is("in slot " + slot, x.thief(0, slot, 0, slot), Due.BAD);
        }
    }

    /** "at b in SLOT t (no less)". */
    private static void thiefNoEarlier() {
        DialTown x = Due.of(TOWER);
        due.is("as late", x.thief(0, 36, 0, 36), 0);
        due.is("later", x.thief(0, 36, 0, 37), 0);
        due.is("earlier", x.thief(0, 36, 0, 35), Due.BAD);
        due.is("72 earlier", x.thief(0, 72, 0, 0), Due.BAD);
    }

    /** "NONE: he cannot have come there". */
    private static void thiefJustInTime() {
        DialTown x = Due.of(TOWER);
        due.is("no step in no time", x.thief(30, 5, 30, 5), 0);
        due.is("one step in no time", x.thief(30, 5, 31, 5), Due.NONE);
        due.is("one step in one", x.thief(30, 5, 31, 6), 0);
        due.is("two steps in one", x.thief(30, 5, 20, 6), Due.NONE);
        due.is("two steps in two", x.thief(30, 5, 20, 7), 0);
        due.is("16 steps in 15", x.thief(0, 57, 80, 72), Due.NONE);
        due.is("16 steps in 16", x.thief(0, 56, 80, 72), 0);
        due.is("about the tower in three", x.thief(39, 5, 41, 8), Due.NONE);
        due.is("about the tower in four", x.thief(39, 5, 41, 9), 0);
    }

    /** "(also from or to a CELL where nobody can be)". */
    private static void thiefWhereNobodyCanBe() {
        DialTown x = Due.of(TOWER + "wall 0 0;shop sunny 0 8 1;");
        for (int cell : new int[] {40, 0}) {
            due.is("from cell " + cell, x.thief(cell, 0, 72, 72), Due.NONE);
            due.is("to cell " + cell, x.thief(72, 0, cell, 72), Due.NONE);
            due.is("in cell " + cell, x.thief(cell, 5, cell, 5), Due.NONE);
            due.is("staying in cell " + cell, x.thief(cell, 5, cell, 50), Due.NONE);
        }
        due.is("from the tower to a wall", x.thief(40, 0, 0, 72), Due.NONE);
        due.is("at a shop", x.thief(72, 5, 72, 5), 1);
    }

    /** "(bits; both SLOTS too)". */
    private static void thiefInBothSlots() {
        DialTown x = Due.of(TOWER + "shop mass 0 8 1;shop sunny 1 8 1;");
        due.is("mass in the first slot", x.thief(72, 36, 72, 40), 1 | 2);
        due.is("mass in the last slot", x.thief(72, 34, 72, 36), 1 | 2);
        due.is("mass in both slots", x.thief(72, 36, 72, 36), 1);
        due.is("ahead of mass", x.thief(72, 35, 72, 35), 0);
        due.is("behind mass", x.thief(72, 37, 72, 37), 0);
        due.is("from mass", x.thief(72, 36, 73, 37), 3);
        due.is("to mass", x.thief(73, 35, 72, 36), 3);
        due.is("a slot too late for mass", x.thief(73, 36, 72, 37), 2);
        due.is("a slot too early for mass", x.thief(72, 35, 73, 36), 2);
    }

    private static void thiefBetween() {
        DialTown x = Due.of(TOWER + "shop mass 0 8 1;");
        due.is("there and back", x.thief(74, 34, 74, 38), 1);
        due.is("too late to be there", x.thief(74, 35, 74, 39), 0);
        due.is("too early to be back", x.thief(74, 33, 74, 37), 0);
        due.is("there, and longer back", x.thief(74, 34, 80, 44), 1);
        due.is("there, and too long back", x.thief(74, 34, 80, 43), 0);
        x.cloud(36, 1);
        due.is("a cloud", x.thief(74, 30, 74, 42), 0);
    }

    /** Each shop where he can have been, also where he cannot have been at all of them. */
    private static void thiefEachShopAlone() {
        DialTown x = Due.of(TOWER + "shop mass 0 8 1;shop mass 2 8 1;shop mass 8 0 1;");
        due.is("either of two", x.thief(73, 35, 73, 37), 3);
        due.is("all day", x.thief(73, 0, 73, 72), 7);
        due.is("one step is not back", x.thief(73, 36, 73, 37), 0);
    }

    private static void thiefBehindWalls() {
        DialTown x = Due.of(TOWER + "wall 0 7;wall 1 8;shop sunny 0 8 1;shop sunny 8 8 1;");
        due.is("out of a cage", x.thief(72, 0, 80, 72), Due.NONE);
        due.is("into a cage", x.thief(80, 0, 72, 72), Due.NONE);
        due.is("in a cage", x.thief(72, 0, 72, 72), 1);
        due.is("outside", x.thief(80, 0, 80, 72), 2);
        DialTown wall = Due.of(TOWER + "wall 1 8;wall 1 7;");
        due.is("about two walls in five", wall.thief(72, 0, 74, 5), Due.NONE);
        due.is("about two walls in six", wall.thief(72, 0, 74, 6), 0);
    }

    private static void thiefOfEight() {
        DialTown x = Due.of(sunnyLine(8));
        due.is("all of eight", x.thief(72, 0, 79, 7), 255);
        due.is("all of eight, back", x.thief(79, 0, 72, 7), 255);
        due.is("there and back", x.thief(72, 0, 72, 13), 127);
        due.is("the last alone", x.thief(79, 9, 79, 9), 128);
        Due.row(x, 0, 1, 1, 1, 1, 1, 1, 1);
        due.is("a walk by all of eight", x.check(72, 0, 0, 0, 7, 1), 255);
    }

    /** Promise 14: a shop undone is gone for walkers, too; also one that an image did not keep. */
    private static void shopsThatAreGone() {
        DialTown x = Due.of(sunnyLine(2));
        Due.row(x, 0, 1, 1);
        x.image(0);
        x.more(1, 74, 1);
        due.is("three shops by a walk", x.check(72, 0, 0, 0, 2, 1), 7);
        for (int time = 0; time < 2; time++) {
            if (time == 0) {
                x.undo();
            } else {
                x.more(1, 74, 1);
                x.restore(0);
            }
            due.is("two shops by a walk", x.check(72, 0, 0, 0, 2, 1), 3);
            due.is("two shops by a thief", x.thief(72, 0, 74, 2), 3);
            due.is("two shops for errands", x.soonest(72, 0, 3), 1);
            due.is("no third one", x.soonest(72, 0, 4), Due.BAD);
            due.is("no third one by bills", x.bills(36, 4), Due.BAD);
            due.is("two shops by bills", x.bills(36, 3), 126);
            due.is("two shops open", x.open(36), 3);
        }
    }
}
