/** Part 1 of the terms and promises 7 and 8: each number and word of a text, and each of its faults. */
public final class FaultBoundsTest {
    private static final String TOWER = "tower 4 4 4;";
    /** The tokens of a text, each with what can stand there. */
    private static final String[] TOKENS = {"tower", "3", "4", "5", ";", "wall", "1", "2", ";", "shop", "dark", "6", "7",
        "89", ";"};
    private static final Due due = new Due();

    public static void main(String[] args) {
        towersAreInTheTown();
        wallsAreInTheTown();
        shopsAreInTheTown();
        sortsAreFive();
        theTowerStandsFirstAndOnce();
        wallsStandAheadOfShops();
        wallsWhereTheTowerIs();
        wallsToldTwice();
        shopsWhereSomethingIs();
        wallsAreTwenty();
        shopsAreEight();
        allThatHasRoom();
        whatCannotStandThere();
        theEnd();
        theFirstTokenOfSeveral();
        theLeastOfOneToken();
        theLatestFault();
        aFaultKeepsTheTown();
        aTownStandsInPlaceOfTheOneBefore();
        aTownIsReadAfterQuestions();
        due.end();
    }

    /** "(CELLS: x and 9 y, 0 to 8 each; REACH 1 to 8)". */
    private static void towersAreInTheTown() {
        for (int n = 0; n <= 8; n++) {
            DialTown x = new DialTown();
            due.is("tower in column " + n, Due.read(x, "tower " + n + " 4 4;"), 0);
            due.is("its cell", x.more(0, n + 36, 0), Due.BAD);
            due.is("its cell is dark", x.shadow(36, n + 36), 1);
            due.is("tower in line " + n, Due.read(x, "tower 4 " + n + " 4;"), 0);
            due.is("its cell", x.more(0, 4 + 9 * n, 0), Due.BAD);
            due.is("its cell is dark", x.shadow(36, 4 + 9 * n), 1);
        }
        for (int reach = 1; reach <= 8; reach++) {
            DialTown x = Due.of("tower 0 8 " + reach + ";");
            for (int east = 1; east <= 8; east++) {
                due.is("reach " + reach, x.shadow(72, (east < reach ? 72 : 63) + east), east <= reach ? 1 : 0);
            }
        }
        for (int beyond : new int[] {9, 10, 80, 99, 100, 999}) {
            fails("tower " + beyond + " 4 4;", 2, 6);
            fails("tower 4 " + beyond + " 4;", 2, 8);
            fails("tower 4 4 " + beyond + ";", 2, 10);
        }
        fails("tower 4 4 0;", 2, 10);
        fails("tower 4 4 000;", 2, 10);
        fits("tower 0 0 1;", 0);
        fits("tower 8 8 8;", 0);
    }

    private static void wallsAreInTheTown() {
        for (int n = 0; n <= 8; n++) {
            DialTown x = new DialTown();
            due.is("wall in column " + n, Due.read(x, "tower 4 4 4;wall " + n + " 3;"), 0);
            due.is("its cell", x.soonest(n + 27, 0, 0), Due.NONE);
            due.is("wall in line " + n, Due.read(x, "tower 4 4 4;wall 3 " + n + ";"), 0);
            due.is("its cell", x.soonest(3 + 9 * n, 0, 0), Due.NONE);
            due.is("one wall", x.count(2), 1);
        }
        for (int beyond : new int[] {9, 10, 99, 100, 999}) {
            fails(TOWER + "wall " + beyond + " 1;", 2, 17);
            fails(TOWER + "wall 1 " + beyond + ";", 2, 19);
        }
    }

    /** SHOPS: their cells, and RENT "0 to 99". */
    private static void shopsAreInTheTown() {
        for (int n = 0; n <= 8; n++) {
            DialTown x = new DialTown();
            due.is("shop in column " + n, Due.read(x, "tower 4 4 4;shop noon " + n + " 3 1;"), 1);
            due.is("its cell", x.shop(0, 0), n + 27);
            due.is("shop in line " + n, Due.read(x, "tower 4 4 4;shop noon 3 " + n + " 1;"), 1);
            due.is("its cell", x.shop(0, 0), 3 + 9 * n);
        }
        for (int beyond : new int[] {9, 10, 99, 100, 999}) {
            fails(TOWER + "shop noon " + beyond + " 1 1;", 2, 22);
            fails(TOWER + "shop noon 1 " + beyond + " 1;", 2, 24);
        }
        for (int rent : new int[] {0, 1, 9, 10, 98, 99}) {
            due.is("rent " + rent, Due.of(TOWER + "shop noon 1 1 " + rent + ";").shop(0, 1), rent);
        }
        for (int beyond : new int[] {100, 101, 999}) {
            fails(TOWER + "shop noon 1 1 " + beyond + ";", 2, 26);
        }
    }

    private static void sortsAreFive() {
        String[] sorts = {"dark", "sunny", "noon", "mass", "lamp"};
        int[] kinds = {1, 4, 2, 3, 5};
        for (int sort = 0; sort < sorts.length; sort++) {
            DialTown x = Due.of(TOWER + "shop " + sorts[sort] + " 1 1 1;");
            due.is("kind of " + sorts[sort], x.kind(0), kinds[sort]);
            x.more(sort, 0, 0);
            due.is("kind of sort " + sort, x.kind(1), kinds[sort]);
        }
        for (String none : new String[] {"shop", "wall", "tower", "light", "night", "a", "z", "darks", "masse"}) {
            fails(TOWER + "shop " + none + " 1 1 1;", 1, 17);
        }
    }

    private static void theTowerStandsFirstAndOnce() {
        fails("wall 1 1;" + TOWER, 1, 0);
        fails("shop dark 1 1 1;" + TOWER, 1, 0);
        fails(TOWER + TOWER, 1, 12);
        fails(TOWER + "wall 1 1;" + TOWER, 1, 21);
        fails(TOWER + "shop dark 1 1 1;" + TOWER, 1, 28);
        fails("", 1, 0);
        fits(TOWER, 0);
    }

    private static void wallsStandAheadOfShops() {
        fits(TOWER + "wall 1 1;shop dark 2 2 2;", 1);
        fits(TOWER + "shop dark 2 2 2;", 1);
        fits(TOWER + "wall 1 1;", 0);
        fails(TOWER + "shop dark 2 2 2;wall 1 1;", 1, 28);
        fails(TOWER + "wall 1 1;shop dark 2 2 2;wall 1 1;", 1, 37);
    }

    /** "(where the tower is not)"; "(Y, where something is)". */
    private static void wallsWhereTheTowerIs() {
        fails(TOWER + "wall 4 4;", 2, 19);
        fails(TOWER + "wall 1 1;wall 4 4;", 2, 28);
        fits(TOWER + "wall 4 3;wall 3 4;wall 5 4;wall 4 5;", 0);
        fails("tower 0 0 4;wall 0 0;", 2, 19);
        fails("tower 8 8 4;wall 8 8;", 2, 19);
    }

    /** "told twice it is one wall". */
    private static void wallsToldTwice() {
        DialTown x = Due.of(TOWER + "wall 1 1;wall 2 2;wall 1 1;wall 1 1;");
        due.is("two walls", x.count(2), 2);
        due.is("the one told three times", x.soonest(10, 0, 0), Due.NONE);
        due.is("the other", x.soonest(20, 0, 0), Due.NONE);
    }

    /** "where no tower, wall, other shop is". */
    private static void shopsWhereSomethingIs() {
        fails(TOWER + "shop dark 4 4 1;", 2, 24);
        fails(TOWER + "wall 1 1;wall 2 2;shop dark 1 1 1;", 2, 42);
        fails(TOWER + "wall 1 1;wall 2 2;shop dark 2 2 1;", 2, 42);
        fails(TOWER + "shop dark 1 1 1;shop lamp 2 2 1;shop noon 1 1 1;", 2, 56);
        fails(TOWER + "shop dark 1 1 1;shop lamp 2 2 1;shop noon 2 2 1;", 2, 56);
        fails(TOWER + "shop dark 1 1 1;shop dark 1 1 1;", 2, 40);
        fits(TOWER + "wall 1 1;shop dark 1 2 1;shop dark 2 1 1;", 2);
    }

    private static String walls(int told) {
        StringBuilder text = new StringBuilder("tower 8 8 8;");
        for (int i = 0; i < told; i++) {
            text.append("wall ").append(i % 9).append(' ').append(i / 9).append(';');
        }
        return text.toString();
    }

    private static String shops(String text, int told) {
        StringBuilder all = new StringBuilder(text);
        for (int i = 0; i < told; i++) {
            all.append("shop dark ").append(i).append(" 7 1;");
        }
        return all.toString();
    }

    /** "told 20 times at most, all of them"; fault 3 at "its word". */
    private static void wallsAreTwenty() {
        for (int told : new int[] {0, 1, 19, 20}) {
            DialTown x = Due.of(walls(told));
            due.is(told + " walls", x.count(2), told);
        }
        fails(walls(21), 3, 192);
        fails(walls(22), 3, 192);
        fails(walls(20) + "\n wall 0 0;", 3, 194);
        fails("tower 8 8 8;" + "wall 0 0;".repeat(21), 3, 192);
        fails(walls(19) + "wall 0 0;wall 1 0;", 3, 192);
        DialTown x = Due.of("tower 8 8 8;" + "wall 0 0;".repeat(20));
        due.is("one wall told 20 times", x.count(2), 1);
        due.is("and told 20 times again", Due.read(x, "tower 8 8 8;" + "wall 0 0;".repeat(20)), 0);
    }

    /** "SHOPS 0 .. 7, 8 at most"; fault 3 at "its word". */
    private static void shopsAreEight() {
        for (int told : new int[] {0, 1, 7, 8}) {
            DialTown x = Due.of(shops(TOWER, told));
            due.is(told + " shops", x.count(1), told);
            due.is("the last", x.shop(told - 1, 0), told == 0 ? Due.BAD : 63 + told - 1);
            due.is("no other", x.shop(told, 0), Due.BAD);
        }
        fails(shops(TOWER, 9), 3, 140);
        fails(shops(TOWER, 8) + "\n shop dark 0 0 1;", 3, 142);
        fails(shops(TOWER, 8) + "shop", 3, 140);
        DialTown x = Due.of(shops(TOWER, 8));
        due.is("and eight again", Due.read(x, shops(TOWER, 8)), 8);
    }

    private static void allThatHasRoom() {
        String all = shops(walls(20), 8);
        DialTown x = new DialTown();
        due.is("20 walls and 8 shops", Due.read(x, all), 8);
        due.is("its walls", x.count(2), 20);
        fails(all + "shop dark 8 0 1;", 3, 320);
        fails(all + "wall 8 0;", 1, 320);
        fails(all + TOWER, 1, 320);
        fails(all + "7", 1, 320);
        fails(all + ";", 1, 320);
        fits(all + " \n ".repeat(26), 8);
    }

    /** Fault 1: in each place of a text each token that cannot stand there, or is none. */
    private static void whatCannotStandThere() {
        String[] others = {"tower", "wall", "shop", "dark", "x", "7", ";", "1000", "0007", "A", ",", "\u00e9"};
        for (int at = 0; at < TOKENS.length; at++) {
            for (String other : others) {
                if (!canStand(at, other)) {
                    String ahead = ahead(at);
                    fails(ahead + other + " " + behind(at + 1), 1, ahead.length());
                    fails(ahead + other, 1, ahead.length());
                    fails(ahead + "\n" + other + " " + behind(at + 1), 1, ahead.length() + 1);
                }
            }
        }
        fits(behind(0), 1);
    }

    private static boolean canStand(int at, String other) {
        String told = TOKENS[at];
        boolean isNumber = told.charAt(0) <= '9';
        boolean isPart = told.equals("wall") || told.equals("shop");
        return told.equals(other) || isNumber && other.equals("7") || isPart && (other.equals("wall") || other.equals("shop"));
    }

    private static String ahead(int at) {
        StringBuilder text = new StringBuilder();
        for (int i = 0; i < at; i++) {
            text.append(TOKENS[i]).append(' ');
        }
        return text.toString();
    }

    private static String behind(int at) {
        StringBuilder text = new StringBuilder();
        for (int i = at; i < TOKENS.length; i++) {
            text.append(TOKENS[i]).append(' ');
        }
        return text.toString();
    }

    /** "the end: how many bytes there are": behind each token that is not the last of its part, blanks too. */
    private static void theEnd() {
        for (int at = 0; at < TOKENS.length; at++) {
            String text = ahead(at);
            if (at > 0 && TOKENS[at - 1].equals(";")) {
                fits(text, 0);
                continue;
            }
            fails(text, 1, text.length());
            fails(text.trim(), 1, text.trim().length());
            fails(text + "\n\n ", 1, text.length() + 3);
        }
        String longest = TOWER + " ".repeat(384) + "wall";
        fails(longest, 1, 400);
        fails(" ".repeat(400), 1, 400);
    }

    /** "the first TOKEN that has one (its first byte)". */
    private static void theFirstTokenOfSeveral() {
        fails("tower 9 9 9;", 2, 6);
        fails("tower 4 9 9;", 2, 8);
        fails("tower 4 4 9 9", 2, 10);
        fails("tower 9 x", 2, 6);
        fails("tower x 9", 1, 6);
        fails("tower 9", 2, 6);
        fails(TOWER + "wall 9 9 9", 2, 17);
        fails(TOWER + "wall 4 4 9", 2, 19);
        fails(TOWER + "wall 1 1 9", 1, 21);
        fails(TOWER + "shop x 9 9 999", 1, 17);
        fails(TOWER + "shop dark 9 9 999", 2, 22);
        fails(TOWER + "shop dark 4 9 999", 2, 24);
        fails(TOWER + "shop dark 4 4 999", 2, 24);
        fails(TOWER + "shop dark 1 1 999", 2, 26);
        fails(TOWER + "shop dark 1 1 99", 1, 28);
        fails(walls(20) + "wall 9 9 9", 3, 192);
        fails(walls(19) + "wall 9 0;wall", 2, 188);
        fails(shops(TOWER, 8) + "shop x 9 9", 3, 140);
        fails(shops(TOWER, 7) + "shop dark 0 7 1;shop", 2, 136);
        fails(walls(20) + "walls;wall", 1, 192);
    }

    /** "of one TOKEN the least": a word that is one too many where it cannot stand, too. */
    private static void theLeastOfOneToken() {
        fails(shops(walls(20), 1) + "wall 0 0;", 1, 208);
        fails(shops(walls(20), 8) + "wall 0 0;", 1, 320);
        fails(TOWER + "wall 9999 1;", 1, 17);
        fails(TOWER + "wall 4 4444;", 1, 19);
        fails(TOWER + "shop dark 1 1 1000;", 1, 26);
    }

    /** Promise 8: "The number of the latest FAULT; 0 before one." */
    private static void theLatestFault() {
        DialTown x = new DialTown();
        due.is("before one", x.fault(), 0);
        Due.read(x, TOWER);
        due.is("after a town", x.fault(), 0);
        Due.read(x, "tower 4 4 9;");
        due.is("after a number", x.fault(), 2);
        due.is("again", x.fault(), 2);
        Due.read(x, walls(21));
        due.is("after one too many", x.fault(), 3);
        Due.read(x, TOWER);
        due.is("after a town", x.fault(), 3);
        x.town();
        due.is("after an empty tape", x.fault(), 1);
        x.image(0);
        Due.read(x, "tower 9");
        x.restore(0);
        due.is("it is not of the town", x.fault(), 2);
    }

    /** "all but the tape, and what fault() tells, stays": for a fault of each number, at each stage of a text. */
    private static void aFaultKeepsTheTown() {
        String[] texts = {"", "tower 0 0", "tower 0 0 1", "tower 0 0 1;x", "tower 0 0 1;wall 0 0;", "tower 0 0 1;wall 1 1",
            "tower 0 0 1;shop noon 8 8 8", "tower 0 0 1;shop noon 8 8 8;shop noon 8 8 9;", walls(21),
            shops("tower 0 0 1;", 9)};
        for (String text : texts) {
            DialTown x = Due.of("tower 2 2 3;wall 1 1;shop lamp 5 5 9;");
            x.season(3);
            x.lean(1, -2);
            x.cloud(4, 1);
            x.image(1);
            Due.row(x, 0, 3, 4);
            x.ask(0, 0);
            Due.read(x, text);
            due.is("shops", x.count(1), 1);
            due.is("walls", x.count(2), 1);
            due.is("its wall", x.soonest(10, 0, 0), Due.NONE);
            due.is("clouds", x.count(3), 1);
            due.is("season", x.count(4), 3);
            due.is("tape", x.count(5), 0);
            due.is("rows", x.count(0), 1);
            due.is("cell", x.shop(0, 0), 50);
            due.is("rent", x.shop(0, 1), 9);
            due.is("kind", x.kind(0), 5);
            due.is("tower", x.soonest(20, 0, 0), Due.NONE);
            due.is("no other tower", x.soonest(0, 0, 0), 0);
            due.is("lean", x.leans(0, 1, -2), 0);
            due.is("the shadow as it leans", x.shadow(36, 12), 1);
            due.is("trace", x.trace(2), 10);
            due.is("items", x.set(0, 1, 4), 4);
            due.is("no other image", x.restore(0), Due.STATE);
            due.is("image", x.restore(1), 1);
        }
        DialTown none = new DialTown();
        Due.read(none, "tower 0 0 1;shop");
        due.is("no town after a fault", none.count(4), 0);
        due.is("no town after a fault", none.open(0), Due.STATE);
        due.is("no shop after a fault", none.undo(), Due.STATE);
    }

    /** "it does not LEAN, SEASON 1, no CLOUDS; IMAGES and ROWS stay". */
    private static void aTownStandsInPlaceOfTheOneBefore() {
        DialTown x = Due.of("tower 2 2 3;wall 1 1;wall 4 2;shop lamp 5 5 9;shop lamp 6 6 9;");
        x.image(0);
        x.season(6);
        x.lean(3, -3);
        x.draw(1, 100);
        x.image(1);
        Due.row(x, 0, 3, 1);
        x.row(7, 1, 2);
        due.is("another town", Due.read(x, "tower 4 4 4;wall 8 8;shop dark 4 3 7;"), 1);
        due.is("shops", x.count(1), 1);
        due.is("walls", x.count(2), 1);
        due.is("the walls before are none", x.soonest(10, 0, 0), 0);
        due.is("the tower before is none", x.soonest(20, 0, 0), 0);
        due.is("the shop before is none", x.more(0, 50, 0), 1);
        due.is("season", x.count(4), 1);
        due.is("clouds", x.count(3), 0);
        due.is("no lean", x.shadow(36, 31), 1);
        due.is("season 1", x.shadow(36, 22), 0);
        due.is("no lean by leans()", x.leans(0, 0, 0), 0);
        due.is("open at noon", x.open(36), 1);
        due.is("rows", x.count(0), 2);
        due.ways("items", x, 0, 3, 1);
        due.is("image 1", x.restore(1), 1);
        due.is("its season", x.count(4), 6);
        due.is("its clouds", x.count(3), 73);
        due.is("its shops", x.count(1), 2);
        due.is("its lean", x.shadow(36, 4), 1);
        due.is("image 0", x.restore(0), 1);
        due.is("its season", x.count(4), 1);
        due.is("its clouds", x.count(3), 0);
    }

    /** Questions by another season, lean or weather leave nothing for the town that is read next. */
    private static void aTownIsReadAfterQuestions() {
        DialTown x = Due.of("tower 4 4 4;wall 0 0;shop dark 4 3 7;shop lamp 8 8 7;");
        x.lean(2, 2);
        x.draw(1, 100);
        x.leans(0, 3, -3);
        x.bills(36, 3);
        x.shop(0, 4);
        x.leans(1, -3, 3);
        due.is("another town", Due.read(x, "tower 4 4 4;shop dark 4 3 7;"), 1);
        due.is("clouds", x.count(3), 0);
        due.is("walls", x.count(2), 0);
        due.is("season", x.count(4), 1);
        due.is("no lean", x.shadow(36, 31), 1);
        due.is("slots without a lean", x.shop(0, 2), 17);
        due.is("a year without a lean", x.shop(0, 4), 7 * 322);
        due.is("the wall's cell is free", x.more(1, 0, 0), 1);
        due.is("the shop's cell is free", x.more(1, 80, 0), 2);
        x.lean(2, 2);
        x.leans(0, 1, 1);
        due.is("a fault", Due.read(x, "tower 0 0 8;wall 4 3"), -1000120);
        due.is("the lean stays", x.leans(0, 2, 2), 0);
        due.is("the shops stay", x.count(1), 3);
        due.is("no wall came", x.count(2), 0);
    }

    private static void fits(String text, int answer) {
        DialTown x = new DialTown();
        due.is("town of " + text, Due.read(x, text), answer);
        due.is("fault of " + text, x.fault(), 0);
    }

    private static void fails(String text, int fault, int place) {
        DialTown x = new DialTown();
        due.is("town of " + text, Due.read(x, text), -1000100 - place);
        due.is("fault of " + text, x.fault(), fault);
        due.is("no town of " + text, x.count(4), 0);
    }
}
