/** Part 2 of the terms and promise 15: slots, the tip of the shadow, its cells, and where it ends. */
public final class ShadowBoundsTest {
    private static final int MIN = Integer.MIN_VALUE, MAX = Integer.MAX_VALUE;
    private static final Due due = new Due();

    public static void main(String[] args) {
        slotsOfADay();
        cellsOfATown();
        aDayOfOneTower();
        aDayInLaterSeasons();
        noonGoesNorthBySeason();
        morningIsWestEveningIsEast();
        reachIsReachedAtTheEnds();
        theWayEastIsCutTowardsNought();
        theStepsAreCutTowardsNought();
        theStepsSouthAreCutTowardsNought();
        theGreaterOfBothWays();
        noWayAtAll();
        leansShiftTheTip();
        leansAreWideAtTheirEnds();
        theTowerIsAlwaysInIt();
        itEndsAheadOfAWall();
        wallsBesideItDoNotEndIt();
        itEndsWithTheTown();
        shopsDoNotEndIt();
        cloudsDoNotEndIt();
        due.end();
    }

    /** "SLOTS 0 .. 72 of a day". */
    private static void slotsOfADay() {
        DialTown x = Due.of("tower 4 4 4;");
        due.is("slot 0", x.shadow(0, 40), 1);
        due.is("slot 72", x.shadow(72, 40), 1);
        for (int slot : new int[] {-1, 73, MIN, MAX}) {
            due.is("slot " + slot, x.shadow(slot, 40), Due.BAD);
        }
    }

    private static void cellsOfATown() {
        due.is("cell 0", Due.of("tower 0 0 4;").shadow(36, 0), 1);
        due.is("cell 80", Due.of("tower 8 8 4;").shadow(36, 80), 1);
        DialTown x = Due.of("tower 4 4 4;");
        due.is("cell 0, no shadow", x.shadow(36, 0), 0);
        due.is("cell 80, no shadow", x.shadow(36, 80), 0);
        for (int cell : new int[] {-1, 81, MIN, MAX}) {
            due.is("cell " + cell, x.shadow(36, cell), Due.BAD);
        }
    }

    /** The way east of tower 4 4 4 is that of (slot less 36) by 9; season 1 is 1 north. */
    private static void aDayOfOneTower() {
        isDay(1, 0, 40, 39, 38, 37, 27);
        isDay(1, 1, 40, 39, 38, 28);
        isDay(1, 9, 40, 39, 38, 28);
        isDay(1, 10, 40, 39, 29);
        isDay(1, 18, 40, 39, 29);
        isDay(1, 27, 40, 30);
        isDay(1, 28, 40, 31);
        isDay(1, 36, 40, 31);
        isDay(1, 44, 40, 31);
        isDay(1, 45, 40, 32);
        isDay(1, 54, 40, 41, 33);
        isDay(1, 72, 40, 41, 42, 43, 35);
    }

    private static void aDayInLaterSeasons() {
        isDay(3, 0, 40, 39, 29, 19, 9);
        isDay(3, 18, 40, 31, 21, 11);
        isDay(3, 36, 40, 31, 22, 13);
        isDay(6, 36, 40, 31, 22, 13, 4);
        isDay(6, 72, 40, 31, 23, 15, 6);
    }

    private static void isDay(int season, int slot, int... cells) {
        isShadow("tower 4 4 4;", season, 0, 0, slot, cells);
    }

    /** "36 is noon"; "SEASON (1 to 6) north (Y less)". */
    private static void noonGoesNorthBySeason() {
        isShadow("tower 4 8 8;", 1, 0, 0, 36, 76, 67);
        isShadow("tower 4 8 8;", 2, 0, 0, 36, 76, 67, 58);
        isShadow("tower 4 8 8;", 3, 0, 0, 36, 76, 67, 58, 49);
        isShadow("tower 4 8 8;", 4, 0, 0, 36, 76, 67, 58, 49, 40);
        isShadow("tower 4 8 8;", 5, 0, 0, 36, 76, 67, 58, 49, 40, 31);
        isShadow("tower 4 8 8;", 6, 0, 0, 36, 76, 67, 58, 49, 40, 31, 22);
    }

    /** "east of the tower (west, below 0)": one slot of 36 ahead of noon and behind it. */
    private static void morningIsWestEveningIsEast() {
        isShadow("tower 4 4 8;", 1, 0, 0, 31, 40, 30);
        isShadow("tower 4 4 8;", 1, 0, 0, 32, 40, 31);
        isShadow("tower 4 4 8;", 1, 0, 0, 35, 40, 31);
        isShadow("tower 4 4 8;", 1, 0, 0, 37, 40, 31);
        isShadow("tower 4 4 8;", 1, 0, 0, 40, 40, 31);
        isShadow("tower 4 4 8;", 1, 0, 0, 41, 40, 32);
    }

    /** "(t less 36) times REACH by 36": the whole REACH in slots 0 and 72 alone. */
    private static void reachIsReachedAtTheEnds() {
        isShadow("tower 8 4 8;", 1, 0, 0, 0, 44, 43, 42, 41, 40, 39, 38, 37, 27);
        isShadow("tower 8 4 8;", 1, 0, 0, 1, 44, 43, 42, 41, 40, 39, 38, 28);
        isShadow("tower 0 4 8;", 1, 0, 0, 71, 36, 37, 38, 39, 40, 41, 42, 34);
        isShadow("tower 0 4 8;", 1, 0, 0, 72, 36, 37, 38, 39, 40, 41, 42, 43, 35);
        isShadow("tower 4 4 1;", 1, 0, 0, 0, 40, 30);
        isShadow("tower 4 4 1;", 1, 0, 0, 72, 40, 32);
        isShadow("tower 4 4 2;", 1, 0, 0, 0, 40, 39, 29);
        isShadow("tower 4 4 2;", 1, 0, 0, 72, 40, 41, 33);
    }

    /** "All that is divided is cut towards 0": less than one cell east or west is none. */
    private static void theWayEastIsCutTowardsNought() {
        isShadow("tower 4 4 1;", 1, 0, 0, 1, 40, 31);
        isShadow("tower 4 4 1;", 1, 0, 0, 71, 40, 31);
        isShadow("tower 4 4 4;", 1, 0, 0, 28, 40, 31);
        isShadow("tower 4 4 4;", 1, 0, 0, 27, 40, 30);
        isShadow("tower 4 4 4;", 1, 0, 0, 44, 40, 31);
        isShadow("tower 4 4 4;", 1, 0, 0, 45, 40, 32);
        isShadow("tower 4 4 4;", 1, 0, 0, 19, 40, 30);
        isShadow("tower 4 4 4;", 1, 0, 0, 18, 40, 39, 29);
        isShadow("tower 4 4 5;", 1, 0, 0, 29, 40, 31);
        isShadow("tower 4 4 5;", 1, 0, 0, 28, 40, 30);
    }

    /** As above, of "k times the way east by K, k times the way north by K": west as east. */
    private static void theStepsAreCutTowardsNought() {
        // 2 west and 6 north, 2 east and 6 north: by thirds of a cell
        isShadow("tower 4 8 8;", 6, 0, 0, 27, 76, 67, 58, 48, 39, 30, 20);
        isShadow("tower 4 8 8;", 6, 0, 0, 45, 76, 67, 58, 50, 41, 32, 24);
        // 5 west and 6 north: 5/6, 10/6, 15/6, 20/6, 25/6, 30/6
        isShadow("tower 8 8 5;", 6, 0, 0, 0, 80, 71, 61, 51, 41, 31, 21);
        // 8 west and 3 north: 3/8, 6/8, 9/8, 12/8, 15/8, 18/8, 21/8, 24/8
        isShadow("tower 8 8 8;", 3, 0, 0, 0, 80, 79, 78, 68, 67, 66, 56, 55, 45);
    }

    private static void theStepsSouthAreCutTowardsNought() {
        // 2 south and 8 east or west: by quarters of a cell
        isShadow("tower 0 0 8;", 1, 0, -3, 72, 0, 1, 2, 3, 13, 14, 15, 16, 26);
        isShadow("tower 8 0 8;", 1, 0, -3, 0, 8, 7, 6, 5, 13, 12, 11, 10, 18);
        // 1 south and 4 east
        isShadow("tower 0 0 4;", 1, 0, -2, 72, 0, 1, 2, 3, 13);
    }

    /** "with K the greater of both ways ... (without sign)": more east, more north, both, west, south. */
    private static void theGreaterOfBothWays() {
        isShadow("tower 1 7 3;", 2, 0, 0, 72, 64, 65, 57, 49);
        isShadow("tower 1 7 2;", 3, 0, 0, 72, 64, 55, 47, 39);
        isShadow("tower 1 7 3;", 3, 0, 0, 72, 64, 56, 48, 40);
        isShadow("tower 7 7 3;", 2, 0, 0, 0, 70, 69, 59, 49);
        isShadow("tower 7 7 3;", 3, 0, 0, 0, 70, 60, 50, 40);
        isShadow("tower 4 4 1;", 1, 0, -3, 0, 40, 49, 57);
        isShadow("tower 4 4 2;", 1, 0, -3, 0, 40, 48, 56);
        isShadow("tower 4 4 3;", 1, 0, -3, 0, 40, 39, 47, 55);
    }

    /** Of no way at all there is the tower alone. */
    private static void noWayAtAll() {
        isShadow("tower 4 4 4;", 1, 0, -1, 36, 40);
        isShadow("tower 4 4 4;", 3, 0, -3, 36, 40);
        isShadow("tower 4 4 4;", 1, 1, -1, 27, 40);
        isShadow("tower 4 4 4;", 1, -1, -1, 45, 40);
        isShadow("tower 4 4 4;", 1, 0, -1, 28, 40);
    }

    /** "both shifted by LEAN (east, north ...)". */
    private static void leansShiftTheTip() {
        isShadow("tower 4 4 4;", 1, 0, -1, 45, 40, 41);
        isShadow("tower 4 4 4;", 1, 0, -3, 36, 40, 49, 58);
        isShadow("tower 4 4 4;", 1, -3, 0, 36, 40, 39, 38, 28);
        isShadow("tower 4 4 4;", 1, -3, 0, 63, 40, 31);
        isShadow("tower 4 4 4;", 1, 3, 3, 72, 40, 41, 33, 34, 26);
        isShadow("tower 4 4 4;", 1, 3, -3, 72, 40, 41, 42, 43, 53);
        isShadow("tower 4 4 4;", 1, 1, 0, 36, 40, 32);
        isShadow("tower 4 4 4;", 1, -1, 0, 36, 40, 30);
        isShadow("tower 4 4 4;", 1, 0, 1, 36, 40, 31, 22);
        isShadow("tower 4 4 4;", 1, 0, -2, 36, 40, 49);
        isShadow("tower 4 4 4;", 2, 2, 0, 36, 40, 32, 24);
        isShadow("tower 4 4 4;", 1, 1, 0, 28, 40, 32);
        isShadow("tower 4 4 4;", 1, 1, 0, 27, 40, 31);
        isShadow("tower 4 4 4;", 1, -1, 0, 44, 40, 30);
        isShadow("tower 4 4 4;", 1, -1, 0, 45, 40, 31);
    }

    /** "-3 to 3 each". */
    private static void leansAreWideAtTheirEnds() {
        isShadow("tower 4 4 4;", 1, 3, 3, 36, 40, 31, 23, 15, 7);
        isShadow("tower 4 4 4;", 1, -3, 3, 36, 40, 31, 21, 11, 1);
        isShadow("tower 4 4 4;", 1, 3, -3, 36, 40, 41, 51, 61);
        isShadow("tower 4 4 4;", 1, -3, -3, 36, 40, 39, 47, 55);
        // 9 north, of which the town has 8
        isShadow("tower 4 8 4;", 6, 0, 3, 36, 76, 67, 58, 49, 40, 31, 22, 13, 4);
        // 11 east and 1 north, of which the town has 8 east
        isShadow("tower 0 4 8;", 1, 3, 0, 72, 36, 37, 38, 39, 40, 41, 42, 43, 44);
        // 11 west and 9 north: 9/11, 18/11, 27/11, 36/11, 45/11, 54/11, 63/11, 72/11 north, 8 west in the town
        isShadow("tower 8 8 8;", 6, -3, 3, 0, 80, 79, 69, 59, 49, 39, 38, 28, 18);
    }

    private static void theTowerIsAlwaysInIt() {
        for (int season = 1; season <= 6; season++) {
            for (int slot = 0; slot <= 72; slot += 12) {
                DialTown x = Due.of("tower 0 0 8;wall 1 0;wall 0 1;");
                x.season(season);
                due.is("the tower's cell in slot " + slot, x.shadow(slot, 0), 1);
            }
        }
    }

    /** "it ends ahead of the first that is a wall": the first, a middle one, the tip; nothing behind it. */
    private static void itEndsAheadOfAWall() {
        isShadow("tower 4 8 1;wall 4 7;", 6, 0, 0, 36, 76);
        isShadow("tower 4 8 1;wall 4 5;", 6, 0, 0, 36, 76, 67, 58);
        isShadow("tower 4 8 1;wall 4 2;", 6, 0, 0, 36, 76, 67, 58, 49, 40, 31);
        isShadow("tower 4 8 1;wall 4 5;wall 4 7;", 6, 0, 0, 36, 76);
        isShadow("tower 4 8 1;wall 4 7;wall 4 5;", 6, 0, 0, 36, 76);
        isShadow("tower 8 4 8;wall 5 4;", 1, 0, 0, 0, 44, 43, 42);
        isShadow("tower 8 4 8;wall 0 3;", 1, 0, 0, 0, 44, 43, 42, 41, 40, 39, 38, 37);
        isShadow("tower 0 4 8;wall 3 4;", 1, 0, 0, 72, 36, 37, 38);
        isShadow("tower 4 4 1;wall 4 5;", 1, 0, -3, 36, 40);
        isShadow("tower 4 4 8;wall 2 4;wall 4 3;shop dark 6 4 1;", 1, 0, 0, 0, 40, 39);
        isShadow("tower 4 4 8;wall 2 4;wall 4 3;shop dark 6 4 1;", 1, 0, 0, 36, 40);
        isShadow("tower 4 4 8;wall 2 4;wall 4 3;shop dark 6 4 1;", 1, 0, 0, 72, 40, 41, 42, 43, 44);
    }

    /** Walls beyond the tip, beside the way, and at a corner that it passes. */
    private static void wallsBesideItDoNotEndIt() {
        isShadow("tower 4 8 1;wall 4 1;", 6, 0, 0, 36, 76, 67, 58, 49, 40, 31, 22);
        isShadow("tower 4 8 1;wall 3 7;wall 5 7;wall 3 2;", 6, 0, 0, 36, 76, 67, 58, 49, 40, 31, 22);
        isShadow("tower 4 4 3;wall 5 4;wall 4 3;", 3, 0, 0, 72, 40, 32, 24, 16);
        isShadow("tower 4 4 3;wall 3 4;wall 4 3;", 3, 0, 0, 0, 40, 30, 20, 10);
    }

    /** "or not in the town": north, east, south, west, at once and later. */
    private static void itEndsWithTheTown() {
        isShadow("tower 4 0 4;", 1, 0, 0, 36, 4);
        isShadow("tower 4 2 4;", 6, 0, 0, 36, 22, 13, 4);
        isShadow("tower 8 4 8;", 1, 0, 0, 72, 44);
        isShadow("tower 6 4 8;", 1, 0, 0, 72, 42, 43, 44);
        isShadow("tower 0 4 8;", 1, 0, 0, 0, 36);
        isShadow("tower 2 4 8;", 1, 0, 0, 0, 38, 37, 36);
        isShadow("tower 4 8 8;", 1, 0, -3, 36, 76);
        isShadow("tower 4 7 8;", 1, 0, -3, 36, 67, 76);
        isShadow("tower 0 0 8;", 1, 0, 0, 0, 0);
        isShadow("tower 8 8 8;", 1, 0, -3, 72, 80);
        isShadow("tower 0 0 8;", 1, 0, 0, 72, 0, 1, 2, 3, 4, 5, 6, 7);
        isShadow("tower 0 8 8;", 1, 0, 0, 72, 72, 73, 74, 75, 76, 77, 78, 79, 71);
        // no cell of the line below or above is taken for one that is not there
        isShadow("tower 8 4 8;", 1, 0, -1, 72, 44);
        isShadow("tower 0 4 8;", 1, 0, -1, 0, 36);
    }

    private static void shopsDoNotEndIt() {
        isShadow("tower 4 8 1;shop dark 4 7 1;shop sunny 4 5 1;", 6, 0, 0, 36, 76, 67, 58, 49, 40, 31, 22);
    }

    private static void cloudsDoNotEndIt() {
        DialTown x = Due.of("tower 4 8 1;");
        x.cloud(36, 1);
        due.is("the tower under a cloud", x.shadow(36, 76), 1);
        due.is("the tip under a cloud", x.shadow(36, 67), 1);
    }

    private static void isShadow(String town, int season, int east, int north, int slot, int... cells) {
        DialTown x = Due.of(town);
        x.season(season);
        x.lean(east, north);
        String name = town + " season " + season + " lean " + east + " " + north + ": shadow(" + slot + ", ";
        for (int cell = 0; cell < 81; cell++) {
            int want = 0;
            for (int c : cells) {
                want = c == cell ? 1 : want;
            }
            due.is(name + cell + ")", x.shadow(slot, cell), want);
        }
    }
}
