import java.math.BigInteger;

/** Promises 9 to 14 and 17: seasons, leans, clouds, draws, shops more and undone, rents, each to its bounds. */
public final class TownBoundsTest {
    private static final int MIN = Integer.MIN_VALUE, MAX = Integer.MAX_VALUE;
    private static final String TOWER = "tower 4 4 4;";
    private static final Due due = new Due();

    public static void main(String[] args) {
        seasonsAreSix();
        leansAreUpToThree();
        cloudsAreOneOrNone();
        cloudsOfEachSlot();
        seedsAndPercents();
        drawnByRests();
        drawnOfEverySeed();
        drawStandsInPlaceOfClouds();
        sortsCellsAndRents();
        cellsThatAreNotFree();
        moreThanEight();
        undoUntilNone();
        undoneCellsAreFree();
        whatIsAskedOfAShop();
        slotsOfADay();
        rentsOfADay();
        rentsOfAYear();
        due.end();
    }

    /** "SEASON (1 to 6): what it was." */
    private static void seasonsAreSix() {
        DialTown x = Due.of("tower 4 8 4;");
        int before = 1;
        for (int season : new int[] {1, 2, 3, 4, 5, 6, 6, 1, 5}) {
            due.is("season " + season, x.season(season), before);
            due.is("it is " + season, x.count(4), season);
            due.is("so far goes the shadow", x.shadow(36, 76 - 9 * season), 1);
            due.is("and no farther", x.shadow(36, 67 - 9 * season), 0);
            before = season;
        }
        for (int season : new int[] {0, 7, -1, MIN, MAX}) {
            due.is("season " + season, x.season(season), Due.BAD);
            due.is("it stays", x.count(4), 5);
        }
        due.is("what it was", x.season(2), 5);
    }

    /** "LEAN (east, north; -3 to 3 each)". */
    private static void leansAreUpToThree() {
        DialTown x = Due.of("tower 4 4 1;");
        for (int way = -3; way <= 3; way++) {
            due.is("lean " + way + " east", x.lean(way, 2), 1);
            due.is("its tip", x.shadow(36, 40 + way - 27), 1);
            due.is("lean " + way + " north", x.lean(0, way), 1);
            due.is("its tip", x.shadow(36, 40 - 9 * (way + 1)), 1);
        }
        x.lean(1, 0);
        for (int way : new int[] {-4, 4, MIN, MAX}) {
            due.is("lean " + way + " east", x.lean(way, 0), Due.BAD);
            due.is("lean " + way + " north", x.lean(0, way), Due.BAD);
            due.is("lean " + way + " both", x.lean(way, way), Due.BAD);
            due.is("it stays", x.shadow(36, 32), 1);
        }
        x.lean(2, 0);
        due.is("a lean stands in place of the one before", x.shadow(36, 33), 1);
        x.lean(0, 0);
        due.is("no lean", x.shadow(36, 31), 1);
    }

    /** "A SLOT has a CLOUD (1) or not (0): how it was." */
    private static void cloudsAreOneOrNone() {
        DialTown x = Due.of(TOWER);
        for (int slot : new int[] {0, 36, 72}) {
            due.is("none at first", x.cloud(slot, 1), 0);
            due.is("one", x.cloud(slot, 1), 1);
            due.is("still one", x.cloud(slot, 0), 1);
            due.is("none", x.cloud(slot, 0), 0);
            due.is("still none", x.cloud(slot, 1), 0);
        }
        for (int slot : new int[] {-1, 73, MIN, MAX}) {
            due.is("cloud in slot " + slot, x.cloud(slot, 1), Due.BAD);
            due.is("none in slot " + slot, x.cloud(slot, 0), Due.BAD);
        }
        for (int is : new int[] {-1, 2, MIN, MAX}) {
            due.is("cloud " + is, x.cloud(0, is), Due.BAD);
            due.is("cloud " + is, x.cloud(1, is), Due.BAD);
        }
        due.is("three clouds", x.count(3), 3);
        due.is("slot 0 as it was", x.cloud(0, 1), 1);
        due.is("slot 1 as it was", x.cloud(1, 0), 0);
    }

    private static void cloudsOfEachSlot() {
        DialTown x = Due.of(TOWER);
        for (int slot = 0; slot <= 72; slot++) {
            due.is("cloud in slot " + slot, x.cloud(slot, 1), 0);
            due.is("clouds up to it", x.count(3), slot + 1);
        }
        for (int slot = 72; slot >= 0; slot--) {
            due.is("none in slot " + slot, x.cloud(slot, 0), 1);
            due.is("clouds up to it", x.count(3), slot);
        }
    }

    /** "(SEED 1 to 999999 ...)"; "p (0 to 100)". */
    private static void seedsAndPercents() {
        DialTown x = Due.of(TOWER);
        due.is("the least seed", x.draw(1, 100), 73);
        due.is("p 0", x.draw(1, 0), 0);
        due.is("the greatest seed", x.draw(999999, 100), 73);
        due.is("p 0 of it", x.draw(999999, 0), 0);
        int drawn = x.draw(7, 30);
        for (int seed : new int[] {0, 1000000, -1, MIN, MAX}) {
            due.is("seed " + seed, x.draw(seed, 100), Due.BAD);
        }
        for (int p : new int[] {-1, 101, MIN, MAX}) {
            due.is("p " + p, x.draw(1, p), Due.BAD);
        }
        due.is("the clouds stay", x.count(3), drawn);
    }

    private static int drawnByHand(int seed, int p) {
        int drawn = 0;
        for (boolean cloud : clouds(seed, p)) {
            drawn += cloud ? 1 : 0;
        }
        return drawn;
    }

    /** By big numbers, so that nothing wraps round. */
    private static boolean[] clouds(int seed, int p) {
        BigInteger x = BigInteger.valueOf(seed);
        boolean[] clouds = new boolean[73];
        for (int slot = 0; slot < clouds.length; slot++) {
            x = x.multiply(BigInteger.valueOf(16807)).mod(BigInteger.valueOf(2147483647));
            clouds[slot] = x.mod(BigInteger.valueOf(100)).intValue() < p;
        }
        return clouds;
    }

    /** "a CLOUD, if the rest of X by 100 is below p": of seed 1 slot 0 has the rest 7, slot 1 the rest 49. */
    private static void drawnByRests() {
        DialTown x = Due.of(TOWER);
        x.draw(1, 7);
        due.is("7 is not below 7", x.cloud(0, 0), 0);
        x.draw(1, 8);
        due.is("7 is below 8", x.cloud(0, 0), 1);
        x.draw(1, 49);
        due.is("49 is not below 49", x.cloud(1, 0), 0);
        x.draw(1, 50);
        due.is("49 is below 50", x.cloud(1, 0), 1);
    }

    private static void drawnOfEverySeed() {
        for (int seed : new int[] {1, 2, 99, 127773, 127774, 500000, 999998, 999999}) {
            for (int p : new int[] {0, 1, 50, 99, 100}) {
                DialTown x = Due.of(TOWER);
                boolean[] clouds = clouds(seed, p);
                due.is("draw(" + seed + ", " + p + ")", x.draw(seed, p), drawnByHand(seed, p));
                due.is("as many clouds", x.count(3), drawnByHand(seed, p));
                for (int slot = 0; slot <= 72; slot++) {
                    due.is("draw(" + seed + ", " + p + ") in " + slot, x.cloud(slot, 0), clouds[slot] ? 1 : 0);
                }
            }
        }
    }

    private static void drawStandsInPlaceOfClouds() {
        DialTown x = Due.of(TOWER);
        x.draw(5, 100);
        due.is("drawn anew", x.draw(1, 50), drawnByHand(1, 50));
        due.is("no more", x.count(3), drawnByHand(1, 50));
        due.is("drawn again", x.draw(1, 50), drawnByHand(1, 50));
        x.cloud(2, 1);
        due.is("one by hand", x.count(3), drawnByHand(1, 50) + 1);
        due.is("none", x.draw(1, 0), 0);
        due.is("the one by hand, too", x.cloud(2, 0), 0);
    }

    /** Promise 13: "a SORT (0 dark, 1 sunny, 2 noon, 3 mass, 4 lamp)", CELLS, RENTS. */
    private static void sortsCellsAndRents() {
        DialTown x = Due.of(TOWER);
        due.is("cell 0, rent 0", x.more(0, 0, 0), 0);
        due.is("cell 80, rent 99", x.more(4, 80, 99), 1);
        due.is("its cell", x.shop(0, 0), 0);
        due.is("its rent", x.shop(0, 1), 0);
        due.is("its cell", x.shop(1, 0), 80);
        due.is("its rent", x.shop(1, 1), 99);
        for (int sort : new int[] {-1, 5, MIN, MAX}) {
            due.is("sort " + sort, x.more(sort, 1, 1), Due.BAD);
        }
        for (int cell : new int[] {-1, 81, MIN, MAX}) {
            due.is("cell " + cell, x.more(1, cell, 1), Due.BAD);
        }
        for (int rent : new int[] {-1, 100, MIN, MAX}) {
            due.is("rent " + rent, x.more(1, 1, rent), Due.BAD);
        }
        due.is("two shops", x.count(1), 2);
        int[] kinds = {1, 4, 2, 3, 5};
        for (int sort = 0; sort <= 4; sort++) {
            due.is("sort " + sort, x.more(sort, 10 + sort, 1), 2 + sort);
            due.is("its kind", x.kind(2 + sort), kinds[sort]);
        }
    }

    /** "BAD: also a CELL that is not free" (no tower, wall, shop). */
    private static void cellsThatAreNotFree() {
        DialTown x = Due.of(TOWER + "wall 1 0;wall 2 0;shop dark 3 0 1;shop lamp 4 0 1;");
        due.is("the tower", x.more(1, 40, 1), Due.BAD);
        due.is("the first wall", x.more(1, 1, 1), Due.BAD);
        due.is("the last wall", x.more(1, 2, 1), Due.BAD);
        due.is("the first shop told", x.more(1, 3, 1), Due.BAD);
        due.is("the last shop told", x.more(1, 4, 1), Due.BAD);
        due.is("a free cell", x.more(1, 5, 1), 2);
        due.is("a shop more", x.more(1, 5, 1), Due.BAD);
        due.is("three shops", x.count(1), 3);
    }

    /** "FULL: 8", told or more. */
    private static void moreThanEight() {
        for (int told = 0; told <= 8; told++) {
            StringBuilder text = new StringBuilder(TOWER);
            for (int shop = 0; shop < told; shop++) {
                text.append("shop dark ").append(shop).append(" 0 1;");
            }
            DialTown x = Due.of(text.toString());
            for (int shop = told; shop < 8; shop++) {
                due.is("shop " + shop, x.more(1, shop, 1), shop);
            }
            due.is("a ninth", x.more(1, 8, 1), Due.FULL);
            due.is("eight shops", x.count(1), 8);
            due.is("its cell is free", x.soonest(8, 0, 0), 0);
            due.is("seven are left", x.undo(), 7);
            due.is("there is room again", x.more(1, 8, 1), 7);
            due.is("and no more", x.more(1, 7, 1), Due.FULL);
        }
    }

    /** Promise 14: "how many are left. STATE: there is none." */
    private static void undoUntilNone() {
        DialTown x = Due.of(TOWER + "shop dark 0 0 1;shop dark 1 0 1;");
        x.more(4, 2, 7);
        due.is("the latest", x.undo(), 2);
        due.is("it is gone", x.kind(2), Due.BAD);
        due.is("one told by a text", x.undo(), 1);
        due.is("it is gone", x.kind(1), Due.BAD);
        due.is("the first stays", x.kind(0), 1);
        due.is("the first", x.undo(), 0);
        due.is("it is gone", x.kind(0), Due.BAD);
        due.is("there is none", x.undo(), Due.STATE);
        due.is("there is none", x.count(1), 0);
        due.is("one more", x.more(2, 0, 1), 0);
        due.is("and gone", x.undo(), 0);
        due.is("there is none", x.undo(), Due.STATE);
        due.is("a town of none", Due.of(TOWER).undo(), Due.STATE);
        due.is("no town", new DialTown().undo(), Due.STATE);
    }

    private static void undoneCellsAreFree() {
        DialTown x = Due.of(TOWER + "wall 8 8;shop noon 0 0 5;shop dark 8 0 6;");
        due.is("undo", x.undo(), 1);
        due.is("its cell has room", x.more(3, 8, 9), 1);
        due.is("its sort is the new one's", x.kind(1), 3);
        due.is("its rent is the new one's", x.shop(1, 1), 9);
        x.undo();
        due.is("the other's cell has none", x.more(3, 0, 9), Due.BAD);
        due.is("the wall's cell has none", x.more(3, 80, 9), Due.BAD);
        due.is("the longest is anew the least", x.longest(1, 0), 1);
        x.undo();
        due.is("the longest is anew the least", x.longest(1, 0), 0);
    }

    /** Promise 17: each what, and the numbers beside the shops and the whats. */
    private static void whatIsAskedOfAShop() {
        DialTown x = Due.of(TOWER + "shop sunny 0 8 99;shop mass 8 8 0;");
        int[][] wants = {{72, 99, 73, 99 * 73, 99 * 438}, {80, 0, 1, 0, 0}};
        for (int shop = 0; shop <= 1; shop++) {
            for (int what = 0; what <= 4; what++) {
                due.is("shop(" + shop + ", " + what + ")", x.shop(shop, what), wants[shop][what]);
            }
            for (int what : new int[] {-1, 5, MIN, MAX}) {
                due.is("shop(" + shop + ", " + what + ")", x.shop(shop, what), Due.BAD);
            }
        }
        for (int what = 0; what <= 4; what++) {
            for (int shop : new int[] {-1, 2, 8, MIN, MAX}) {
                due.is("shop(" + shop + ", " + what + ")", x.shop(shop, what), Due.BAD);
            }
            due.is("no town", new DialTown().shop(0, what), Due.BAD);
            due.is("no shops", Due.of(TOWER).shop(0, what), Due.BAD);
        }
    }

    /** "SLOTS in which it is OPEN in the day": of none, of all; with clouds. */
    private static void slotsOfADay() {
        DialTown x = Due.of(TOWER + "shop sunny 0 0 1;shop dark 0 8 1;shop noon 4 3 1;shop mass 8 8 1;shop lamp 1 0 1;");
        int[] slots = {73, 0, 13, 1, 24};
        for (int shop = 0; shop < slots.length; shop++) {
            due.is("slots of shop " + shop, x.shop(shop, 2), slots[shop]);
        }
        x.cloud(0, 1);
        x.cloud(30, 1);
        int[] lessTwo = {71, 0, 12, 1, 23};
        for (int shop = 0; shop < lessTwo.length; shop++) {
            due.is("slots of shop " + shop + " less two", x.shop(shop, 2), lessTwo[shop]);
        }
        x.draw(1, 100);
        for (int shop = 0; shop < slots.length; shop++) {
            due.is("slots of shop " + shop + " on a holiday", x.shop(shop, 2), 0);
            due.is("rents of shop " + shop + " on a holiday", x.shop(shop, 3), 0);
        }
    }

    private static void rentsOfADay() {
        for (int rent : new int[] {0, 1, 99}) {
            DialTown x = Due.of(TOWER + "shop dark 4 3 " + rent + ";");
            due.is("17 slots of " + rent, x.shop(0, 3), 17 * rent);
            x.season(2);
            due.is("35 slots of " + rent, x.shop(0, 3), 35 * rent);
            x.cloud(36, 1);
            due.is("34 slots of " + rent, x.shop(0, 3), 34 * rent);
        }
    }

    /** "of a YEAR: those without CLOUDS, by SEASONS 1 to 6, together": 17, 35, 53, 71, 73, 73 slots. */
    private static void rentsOfAYear() {
        DialTown x = Due.of(TOWER + "shop dark 4 3 1;shop lamp 0 8 2;");
        due.is("dark", x.shop(0, 4), 322);
        due.is("lamp", x.shop(1, 4), 2 * 24 * 6);
        int day = 0;
        for (int season = 1; season <= 6; season++) {
            x.season(season);
            day += x.shop(0, 3);
            due.is("a year in season " + season, x.shop(0, 4), 322);
        }
        due.is("the days together", day, 322);
        x.draw(1, 100);
        due.is("a year of clouds", x.shop(0, 4), 322);
        due.is("the clouds stay", x.count(3), 73);
        due.is("the season stays", x.count(4), 6);
        x.lean(0, -3);
        due.is("a year as it leans", x.shop(0, 4), 17 + 35 + 53);
    }
}
