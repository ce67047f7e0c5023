/** Part 3 of the terms and promises 21 to 25: the longest, bills, leans and images, each to its bounds. */
public final class PlaceBoundsTest {
    private static final int MIN = Integer.MIN_VALUE, MAX = Integer.MAX_VALUE;
    private static final String TOWER = "tower 4 4 4;";
    private static final Due due = new Due();

    public static void main(String[] args) {
        longestNumbers();
        longestIsTheLeastOfSeveral();
        longestIsFree();
        longestOfThoseInTheShadow();
        longestUnderClouds();
        longestByLeanAndSeason();
        longestWithFewFreeCells();
        billsNumbers();
        billsSets();
        billsOfJustTheseShops();
        billsOfAllSeasonsAndOfNone();
        billsWithoutClouds();
        billsAsItLeans();
        leansNumbers();
        leansMoreAndLess();
        leansFromAnotherLean();
        leansUnderClouds();
        imageNumbers();
        restoreOfNone();
        imagesAreTwo();
        imagesKeepTheTownAlone();
        imagesAreNotTheTown();
        due.end();
    }

    /** "SORT 0 to 4"; "what = 0", "(1)". */
    private static void longestNumbers() {
        DialTown x = Due.of(TOWER);
        int[] cells = {39, 0, 31, 31, 0};
        int[] slots = {19, 73, 13, 13, 24};
        for (int sort = 0; sort <= 4; sort++) {
            due.is("cell of sort " + sort, x.longest(sort, 0), cells[sort]);
            due.is("slots of sort " + sort, x.longest(sort, 1), slots[sort]);
        }
        for (int sort : new int[] {-1, 5, MIN, MAX}) {
            due.is("sort " + sort, x.longest(sort, 0), Due.BAD);
            due.is("sort " + sort, x.longest(sort, 1), Due.BAD);
        }
        for (int what : new int[] {-1, 2, MIN, MAX}) {
            due.is("what " + what, x.longest(0, what), Due.BAD);
        }
    }

    /** "of several the least". */
    private static void longestIsTheLeastOfSeveral() {
        DialTown x = Due.of(TOWER);
        // 3 4 is in the shadow in slots 0 to 18, 5 4 in 54 to 72: as many
        isLongest(x, 0, 39, 19);
        x.more(1, 39, 0);
        isLongest(x, 0, 41, 19);
        x.more(1, 41, 0);
        isLongest(x, 0, 31, 17);
        for (int cell = 0; cell < 5; cell++) {
            isLongest(x, 1, cell, 73);
            x.more(0, cell, 0);
        }
        isLongest(x, 1, 5, 73);
    }

    /** "the free CELL (no tower, wall, shop)". */
    private static void longestIsFree() {
        isLongest(Due.of("tower 8 8 1;"), 1, 0, 73);
        isLongest(Due.of("tower 8 8 1;wall 0 0;"), 1, 1, 73);
        isLongest(Due.of("tower 8 8 1;wall 0 0;shop sunny 1 0 0;"), 1, 2, 73);
        isLongest(Due.of("tower 0 0 4;"), 0, 1, 19);
        isLongest(Due.of("tower 0 0 4;wall 2 0;"), 0, 1, 19);
        // the tower's own cell is always in the shadow, and never free
        isLongest(Due.of("tower 0 0 4;wall 1 0;"), 0, 2, 0);
        DialTown undone = Due.of(TOWER + "shop sunny 0 0 1;");
        isLongest(undone, 4, 1, 24);
        undone.undo();
        isLongest(undone, 4, 0, 24);
    }

    private static void longestOfThoseInTheShadow() {
        DialTown x = Due.of("tower 4 8 1;");
        isLongest(x, 0, 67, 71);
        isLongest(x, 2, 67, 13);
        isLongest(x, 3, 67, 13);
        isLongest(x, 4, 0, 24);
        DialTown none = Due.of("tower 4 0 8;wall 3 0;wall 5 0;");
        isLongest(none, 0, 0, 0);
        isLongest(none, 2, 0, 0);
        isLongest(none, 3, 0, 1);
    }

    /** "OPEN in most SLOTS of the day", and under a cloud none is open. */
    private static void longestUnderClouds() {
        DialTown x = Due.of(TOWER);
        x.cloud(0, 1);
        isLongest(x, 0, 41, 19);
        isLongest(x, 1, 0, 72);
        x.cloud(72, 1);
        isLongest(x, 0, 39, 18);
        x.cloud(36, 1);
        isLongest(x, 3, 31, 12);
        x.draw(1, 100);
        for (int sort = 0; sort <= 4; sort++) {
            isLongest(x, sort, 0, 0);
        }
    }

    private static void longestByLeanAndSeason() {
        DialTown x = Due.of(TOWER);
        x.season(6);
        isLongest(x, 0, 31, 73);
        x.lean(0, -3);
        isLongest(x, 0, 31, 53);
        x.season(3);
        // no way north: all of the west in slots 0 to 27, all of the east in 45 to 72
        isLongest(x, 0, 39, 28);
        x.lean(1, -3);
        isLongest(x, 0, 41, 45);
    }

    /** Of 81 cells a tower, 20 walls and 8 shops leave 52: there is always a free one. */
    private static void longestWithFewFreeCells() {
        StringBuilder text = new StringBuilder("tower 0 0 1;");
        for (int wall = 1; wall <= 20; wall++) {
            text.append("wall ").append(wall % 9).append(' ').append(wall / 9).append(';');
        }
        DialTown x = Due.of(text.toString());
        for (int cell = 21; cell < 29; cell++) {
            isLongest(x, 1, cell, 73);
            isLongest(x, 3, cell, 1);
            x.more(1, cell, 1);
        }
        isLongest(x, 4, 29, 24);
        isLongest(x, 0, 29, 0);
    }

    private static void isLongest(DialTown x, int sort, int cell, int slots) {
        due.is("longest(" + sort + ", 0)", x.longest(sort, 0), cell);
        due.is("longest(" + sort + ", 1)", x.longest(sort, 1), slots);
    }

    private static void billsNumbers() {
        DialTown x = Due.of(TOWER + "shop sunny 0 8 1;");
        due.is("slot 0", x.bills(0, 1), 126);
        due.is("slot 72", x.bills(72, 1), 126);
        for (int slot : new int[] {-1, 73, MIN, MAX}) {
            due.is("slot " + slot, x.bills(slot, 1), Due.BAD);
        }
    }

    /** Shops that there are not: the bit beside the last, for each number of shops. */
    private static void billsSets() {
        DialTown x = Due.of("tower 4 4 1;");
        for (int many = 0; many <= 8; many++) {
            due.is("all of " + many, x.bills(36, (1 << many) - 1), 126);
            due.is("one beyond " + many, x.bills(36, 1 << many), Due.BAD);
            due.is("all and one beyond " + many, x.bills(36, (2 << many) - 1), Due.BAD);
            for (int shops : new int[] {-1, 256, MIN, MAX}) {
                due.is("shops " + shops, x.bills(36, shops), Due.BAD);
            }
            x.more(1, 72 + many, 1);
        }
    }

    /** "just told SHOPS (bits) were OPEN": no fewer, and no others. */
    private static void billsOfJustTheseShops() {
        DialTown x = Due.of(TOWER + "shop sunny 0 8 1;shop sunny 1 8 1;shop lamp 2 8 1;");
        for (int shops = 0; shops <= 7; shops++) {
            due.is("at noon " + shops, x.bills(36, shops), shops == 3 ? 126 : 0);
            due.is("in the evening " + shops, x.bills(61, shops), shops == 7 ? 126 : 0);
        }
    }

    /** "SEASONS (bits 1 to 6) that fit": cell 31 is in the shadow of slot 18 from season 3 on. */
    private static void billsOfAllSeasonsAndOfNone() {
        DialTown x = Due.of(TOWER + "shop dark 4 3 1;");
        due.is("open from season 3 on", x.bills(18, 1), 0b1111000);
        due.is("closed up to season 2", x.bills(18, 0), 0b0000110);
        due.is("open in all", x.bills(36, 1), 0b1111110);
        due.is("closed in none", x.bills(36, 0), 0);
        DialTown y = Due.of("tower 4 8 4;shop dark 4 7 1;shop dark 4 2 1;");
        due.is("season 6 alone", y.bills(36, 3), 0b1000000);
        due.is("all but season 6", y.bills(36, 1), 0b0111110);
        DialTown z = Due.of("tower 4 8 4;shop sunny 4 6 1;");
        due.is("season 1 alone", z.bills(36, 1), 0b0000010);
        for (int season = 1; season <= 6; season++) {
            z.season(season);
            due.is("whatever the season is", z.bills(36, 1), 0b0000010);
            due.is("and it stays", z.count(4), season);
        }
    }

    private static void billsWithoutClouds() {
        DialTown x = Due.of(TOWER + "shop dark 4 3 1;");
        x.draw(1, 100);
        due.is("open, though clouded now", x.bills(18, 1), 0b1111000);
        due.is("closed", x.bills(18, 0), 0b0000110);
        due.is("the clouds stay", x.count(3), 73);
        due.is("and none is open", x.open(36), 0);
    }

    private static void billsAsItLeans() {
        DialTown x = Due.of(TOWER + "shop dark 4 3 1;");
        x.lean(0, 2);
        due.is("two more north", x.bills(18, 1), 0b1111110);
        x.lean(0, -3);
        due.is("three less north", x.bills(36, 1), 0b1110000);
        due.is("the lean stays", x.leans(0, 0, -3), 0);
    }

    private static void leansNumbers() {
        DialTown x = Due.of(TOWER + "shop sunny 0 8 1;shop sunny 8 8 1;");
        for (int way = -3; way <= 3; way++) {
            due.is("lean " + way + " east", x.leans(0, way, 3), 0);
            due.is("lean " + way + " north", x.leans(1, 3, way), 0);
        }
        for (int way : new int[] {-4, 4, MIN, MAX}) {
            due.is("lean " + way + " east", x.leans(0, way, 0), Due.BAD);
            due.is("lean " + way + " north", x.leans(0, 0, way), Due.BAD);
        }
        for (int shop : new int[] {-1, 2, 8, MIN, MAX}) {
            due.is("shop " + shop, x.leans(shop, 0, 0), Due.BAD);
        }
        due.is("no shops", Due.of(TOWER).leans(0, 0, 0), Due.BAD);
        due.is("no town", new DialTown().leans(0, 0, 0), Due.BAD);
    }

    /** "by how many SLOTS of the day ... more (below 0: less)": cell 31, 17 slots without a lean. */
    private static void leansMoreAndLess() {
        DialTown x = Due.of(TOWER + "shop dark 4 3 1;");
        due.is("no more", x.leans(0, 0, 0), 0);
        due.is("more", x.leans(0, 0, 1), 35 - 17);
        due.is("less", x.leans(0, 1, 0), 9 - 17);
        due.is("none", x.leans(0, 0, -1), -17);
        due.is("the town does not lean", x.shop(0, 2), 17);
        DialTown sunny = Due.of(TOWER + "shop sunny 4 3 1;");
        due.is("of a sunny one less", sunny.leans(0, 0, 1), 17 - 35);
        due.is("of a sunny one more", sunny.leans(0, 0, -1), 17);
        DialTown noon = Due.of(TOWER + "shop noon 4 3 1;");
        due.is("of a noon one as many", noon.leans(0, 0, 1), 0);
        due.is("of a noon one none", noon.leans(0, 0, -1), -13);
        DialTown mass = Due.of(TOWER + "shop mass 4 3 1;");
        due.is("of a mass all but one", mass.leans(0, 0, -1), -12);
    }

    private static void leansFromAnotherLean() {
        DialTown x = Due.of(TOWER + "shop dark 4 3 1;");
        x.lean(0, 1);
        due.is("as it leans", x.leans(0, 0, 1), 0);
        due.is("not leaning", x.leans(0, 0, 0), 17 - 35);
        due.is("two north", x.leans(0, 0, 2), 53 - 35);
        due.is("the lean stays", x.shop(0, 2), 35);
    }

    private static void leansUnderClouds() {
        DialTown x = Due.of(TOWER + "shop dark 4 3 1;");
        x.cloud(20, 1);
        due.is("a cloud in a slot of the other lean", x.leans(0, 0, 1), 34 - 17);
        x.cloud(36, 1);
        due.is("a cloud in a slot of both", x.leans(0, 0, 1), 33 - 16);
        x.draw(1, 100);
        due.is("on a holiday", x.leans(0, 0, 1), 0);
    }

    private static void imageNumbers() {
        DialTown x = Due.of(TOWER);
        for (int k : new int[] {-1, 2, MIN, MAX}) {
            due.is("image " + k, x.image(k), Due.BAD);
            due.is("restore " + k, x.restore(k), Due.BAD);
        }
        for (int k = 0; k <= 1; k++) {
            due.is("image " + k, x.image(k), 1);
            due.is("restore " + k, x.restore(k), 1);
        }
    }

    /** "STATE: none was kept", of each image alone. */
    private static void restoreOfNone() {
        for (int k = 0; k <= 1; k++) {
            DialTown none = new DialTown();
            due.is("restore " + k + " without a town", none.restore(k), Due.STATE);
            due.is("image " + k + " without a town", none.image(k), Due.STATE);
            due.is("none was kept", none.restore(k), Due.STATE);
            DialTown x = Due.of(TOWER);
            due.is("restore " + k, x.restore(k), Due.STATE);
            due.is("image of the other", x.image(1 - k), 1);
            due.is("restore " + k, x.restore(k), Due.STATE);
            due.is("restore of the other", x.restore(1 - k), 1);
        }
    }

    private static void imagesAreTwo() {
        DialTown x = Due.of("tower 0 0 1;");
        x.image(0);
        Due.read(x, "tower 8 8 1;wall 0 0;");
        x.image(1);
        Due.read(x, "tower 4 4 1;");
        for (int time = 0; time < 2; time++) {
            x.restore(0);
            due.is("the tower of image 0", x.soonest(0, 0, 0), Due.NONE);
            due.is("no other", x.soonest(80, 0, 0), 0);
            due.is("no walls", x.count(2), 0);
            x.restore(1);
            due.is("the tower of image 1", x.soonest(80, 0, 0), Due.NONE);
            due.is("its wall", x.count(2), 1);
            due.is("not the one between", x.soonest(40, 0, 0), 0);
        }
        due.is("image 0 of this one", x.image(0), 1);
        Due.read(x, "tower 4 4 1;");
        x.restore(0);
        due.is("it stands in place of the one before", x.count(2), 1);
    }

    /** An image is of the town: rows, the tape, the trace, faults and findings stay. */
    private static void imagesKeepTheTownAlone() {
        DialTown x = Due.of(TOWER + "shop lamp 0 0 3;");
        x.image(0);
        Due.row(x, 0, 1, 2);
        x.row(1, 1, 5);
        x.drop(1);
        Due.read(x, "tower 9");
        Due.feed(x, "tower");
        x.ask(0, 0);
        x.set(0, 2, 1);
        x.more(0, 1, 1);
        due.is("restore", x.restore(0), 1);
        due.is("rows", x.count(0), 1);
        due.is("finding", x.status(), 2);
        due.ways("items", x, 0, 1, 2);
        due.is("tape", x.count(5), 5);
        due.is("fault", x.fault(), 2);
        due.is("trace", x.trace(0), 14);
        due.is("shops", x.count(1), 1);
    }

    /** What becomes of the town after it does not become of its image, and the other way. */
    private static void imagesAreNotTheTown() {
        DialTown x = Due.of("tower 4 4 4;wall 1 1;shop dark 4 3 7;shop mass 8 8 8;");
        x.season(2);
        x.lean(0, 1);
        x.cloud(5, 1);
        x.image(0);
        x.season(3);
        x.lean(3, 3);
        x.cloud(5, 0);
        x.cloud(6, 1);
        x.undo();
        x.undo();
        x.more(4, 0, 1);
        for (int time = 0; time < 2; time++) {
            x.restore(0);
            due.is("season", x.count(4), 2);
            due.is("lean", x.leans(0, 0, 1), 0);
            due.is("clouds", x.count(3), 1);
            due.is("its cloud", x.cloud(5, 0), 1);
            due.is("no other", x.cloud(6, 1), 0);
            due.is("shops", x.count(1), 2);
            due.is("kinds", x.kind(0) * 10 + x.kind(1), 13);
            due.is("cells", x.shop(0, 0) * 100 + x.shop(1, 0), 3180);
            due.is("rents", x.shop(0, 1) * 10 + x.shop(1, 1), 78);
            due.is("a cell is free again", x.more(0, 0, 0), 2);
            due.is("a shop's cell is not", x.more(0, 31, 0), Due.BAD);
            due.is("a wall's cell is not", x.more(0, 10, 0), Due.BAD);
            due.is("the tower's cell is not", x.more(0, 40, 0), Due.BAD);
            due.is("the latest shop is the one more", x.undo(), 2);
            due.is("then the latest of the image", x.undo(), 1);
            x.season(5);
        }
    }
}
