/** Promises 6 to 8: the tape, the text of a town, and its faults. */
public final class TextTest {
    private static final String TOWER = "tower 4 4 4;";
    private static final Due due = new Due();

    public static void main(String[] args) {
        tapeIsFed();
        tapeIsFull();
        townsAreRead();
        blanks();
        misplaced();
        wrongNumbers();
        tooMany();
        faultsKeepTheTown();
        readTownBeginsAnew();
        due.end();
    }

    private static void tapeIsFed() {
        DialTown x = new DialTown();
        due.is("feed(0, 0)", x.feed(0, 0), Due.BAD);
        due.is("feed(0, 9)", x.feed(0, 9), Due.BAD);
        due.is("feed(0, -1)", x.feed(0, -1), Due.BAD);
        due.is("feed(0, MIN)", x.feed(0, Integer.MIN_VALUE), Due.BAD);
        due.is("feed(0, MAX)", x.feed(0, Integer.MAX_VALUE), Due.BAD);
        due.is("count(5)", x.count(5), 0);
        // "to", "w", "er 4 4 4" and ";": the highest of the lowest bytes come first
        due.is("feed 2", x.feed(0x7171_7171_7171_746FL, 2), 2);
        due.is("feed 1", x.feed(0xFFFF_FFFF_FFFF_FF77L, 1), 3);
        due.is("feed 8", x.feed(0x6572_2034_2034_2034L, 8), 11);
        due.is("feed 1", x.feed(0x3B, 1), 12);
        due.is("count(5)", x.count(5), 12);
        due.is("town", x.town(), 0);
        due.is("count(5) after the town", x.count(5), 0);
        due.is("fault after the town", x.fault(), 0);
        due.is("tower at 40", x.shadow(0, 40), 1);
    }

    private static void tapeIsFull() {
        DialTown x = new DialTown();
        for (int i = 1; i <= 49; i++) {
            due.is("feed blanks", x.feed(0x2020202020202020L, 8), 8 * i);
        }
        due.is("feed 7 more", x.feed(0x20202020202020L, 7), 399);
        due.is("feed 2 where one has room", x.feed(0x2020, 2), Due.FULL);
        due.is("none came", x.count(5), 399);
        due.is("feed 9 where one has room", x.feed(0, 9), Due.BAD);
        due.is("the last", x.feed(0x20, 1), 400);
        due.is("no more", x.feed(0x20, 1), Due.FULL);
        due.is("town of blanks", x.town(), -1000100 - 400);
        due.is("fault of blanks", x.fault(), 1);
        due.is("empty after a fault", x.count(5), 0);
        due.is("feed again", x.feed(0x20, 1), 1);
        fails("tower 4 4 4;" + "w".repeat(388), 1, 12);
        fails("tower 4 4 4;" + " ".repeat(384) + "wall", 1, 400);
        fails("tower 4 4 4;" + " ".repeat(382) + "wall 1", 1, 400);
        fails("tower 4 4 4;" + "9".repeat(388), 1, 12);
        fits(" ".repeat(388) + "tower 4 4 4;", 0);
        fits("tower 4 4 4;" + "\n".repeat(388), 0);
    }

    private static void townsAreRead() {
        DialTown x = new DialTown();
        due.is("a tower", Due.read(x, "tower 0 8 1;"), 0);
        due.is("its cell", x.shadow(36, 72), 1);
        due.is("walls", Due.read(x, "tower 4 4 8; wall 0 0; wall 8 8; wall 0 0;"), 0);
        due.is("a wall told twice is one", x.count(2), 2);
        due.is("a wall is no free cell", x.more(0, 80, 0), Due.BAD);
        due.is("shops", Due.read(x, "tower 4 4 4; wall 1 0; shop dark 0 0 0; shop sunny 2 0 1; "
            + "shop noon 3 0 22; shop mass 4 0 99; shop lamp 8 7 007;"), 5);
        int[] cells = {0, 2, 3, 4, 71};
        int[] rents = {0, 1, 22, 99, 7};
        int[] kinds = {1, 4, 2, 3, 5};
        for (int shop = 0; shop < 5; shop++) {
            due.is("cell of shop " + shop, x.shop(shop, 0), cells[shop]);
            due.is("rent of shop " + shop, x.shop(shop, 1), rents[shop]);
            due.is("kind of shop " + shop, x.kind(shop), kinds[shop]);
        }
        due.is("count(1)", x.count(1), 5);
        due.is("count(2)", x.count(2), 1);
    }

    private static void blanks() {
        fits("tower4 4 4;wall1 1;shop dark0 0 5;", 1);
        fits("tower 4 4 4;wall 1 1;shop dark 0 0 5;", 1);
        fits(" \n tower\n4\n\n4  4 ; wall\n1 1\n;\n \nshop\ndark 0 0 5 ; \n", 1);
        fits("tower 004 04 008;", 0);
        fails("\ttower 4 4 4;", 1, 0);
        fails("tower\r4 4 4;", 1, 5);
        fails("tower 4,4 4;", 1, 7);
        fails("tower 4 4 4;\u0000", 1, 12);
        fails("tower 4 4 4;\u00ff", 1, 12);
        fails("tower 44 4;", 2, 6);
    }

    private static void misplaced() {
        fails("", 1, 0);
        fails("   ", 1, 3);
        fails(";", 1, 0);
        fails("4", 1, 0);
        fails("Tower 4 4 4;", 1, 0);
        fails("towers 4 4 4;", 1, 0);
        fails("towe 4 4 4;", 1, 0);
        fails("mower 4 4 4;", 1, 0);
        fails("tower 4 4 4,", 1, 11);
        fails(TOWER + "ball 1 1;", 1, 12);
        fails(TOWER + "wall 1 1:", 1, 20);
        fails(TOWER + "stop dark 1 1 1;", 1, 12);
        fails(TOWER + "shop bark 1 1 1;", 1, 17);
        fails(TOWER + "shop funny 1 1 1;", 1, 17);
        fails(TOWER + "shop moon 1 1 1;", 1, 17);
        fails(TOWER + "shop mast 1 1 1;", 1, 17);
        fails(TOWER + "shop damp 1 1 1;", 1, 17);
        fails(TOWER + "shop lam 1 1 1;", 1, 17);
        fails("towerwall 4 4 4;", 1, 0);
        fails("wall 1 1;", 1, 0);
        fails("shop dark 1 1 1;", 1, 0);
        fails("tower", 1, 5);
        fails("tower ;", 1, 6);
        fails("tower x 4 4;", 1, 6);
        fails("tower 4", 1, 7);
        fails("tower 4 4 ", 1, 10);
        fails("tower 4 4 4", 1, 11);
        fails("tower 4 4 4 \n", 1, 13);
        fails("tower 4 4 4 4;", 1, 12);
        fails("tower 4 4 4 wall 1 1;", 1, 12);
        fails("tower 4444 4 4;", 1, 6);
        fails("tower 0004 4 4;", 1, 6);
        fails("tower 4 4 4;;", 1, 12);
        fails(TOWER + "tower 4 4 4;", 1, 12);
        fails(TOWER + "7", 1, 12);
        fails(TOWER + "7777", 1, 12);
        fails(TOWER + " walls 1 1;", 1, 13);
        fails(TOWER + "wall dark 1;", 1, 17);
        fails(TOWER + "wall 1;", 1, 18);
        fails(TOWER + "wall 1 1 1;", 1, 21);
        fails(TOWER + "wall 1 1", 1, 20);
        fails(TOWER + "shop 1 1 1;", 1, 17);
        fails(TOWER + "shop;", 1, 16);
        fails(TOWER + "shop", 1, 16);
        fails(TOWER + "shop wall 1 1 1;", 1, 17);
        fails(TOWER + "shop darker 1 1 1;", 1, 17);
        fails(TOWER + "shop sun 1 1 1;", 1, 17);
        fails(TOWER + "shop dark x 1 1;", 1, 22);
        fails(TOWER + "shop dark 1 ; 1;", 1, 24);
        fails(TOWER + "shop dark 1 1;", 1, 25);
        fails(TOWER + "shop dark 1 1 1 1;", 1, 28);
        fails(TOWER + "shop dark 1 1 1", 1, 27);
        fails(TOWER + "shop dark 1 1 1000;", 1, 26);
        fails(TOWER + "shop dark 1 1 1;wall 2 2;", 1, 28);
    }

    private static void wrongNumbers() {
        fails("tower 9 4 4;", 2, 6);
        fails("tower 4 9 4;", 2, 8);
        fails("tower 4 4 0;", 2, 10);
        fails("tower 4 4 9;", 2, 10);
        fails("tower 4 4 999", 2, 10);
        fails("tower 4 4 x", 1, 10);
        fails(TOWER + "wall 9 1;", 2, 17);
        fails(TOWER + "wall 1 9;", 2, 19);
        fails(TOWER + "wall 4 4;", 2, 19);
        fails(TOWER + "wall 4 4", 2, 19);
        fits(TOWER + "wall 4 3;wall 4 3;", 0);
        fails(TOWER + "wall 1 1;shop dark 9 1 1;", 2, 31);
        fails(TOWER + "wall 1 1;shop dark 1 9 1;", 2, 33);
        fails(TOWER + "wall 1 1;shop dark 1 1 1;", 2, 33);
        fails(TOWER + "wall 1 1;shop dark 4 4 1;", 2, 33);
        fails(TOWER + "wall 1 1;shop dark 4 4 x;", 2, 33);
        fails(TOWER + "shop dark 1 1 1;shop lamp 1 1 1;", 2, 40);
        fails(TOWER + "shop dark 1 1 100;", 2, 26);
        fits(TOWER + "shop dark 1 1 99;", 1);
        fits(TOWER + "shop dark 1 1 099;", 1);
    }

    private static void tooMany() {
        StringBuilder walls = new StringBuilder("tower 8 8 1;");
        for (int i = 0; i < 20; i++) {
            walls.append("wall ").append(i % 9).append(" ").append(i / 9).append(";");
        }
        fits(walls.toString(), 0);
        fails(walls + "wall 0 0;", 3, 192);
        fails(walls + "wall", 3, 192);
        fails(walls + " wall 9 9;", 3, 193);
        fails(walls + "walls", 1, 192);
        String same = "tower 8 8 1;" + "wall 0 0;".repeat(20);
        fits(same, 0);
        fails(same + "wall 0 0;", 3, 192);
        fails(same + "shop dark 1 1 1;wall 0 0;", 1, 208);
        StringBuilder shops = new StringBuilder(TOWER);
        for (int i = 0; i < 8; i++) {
            shops.append("shop dark ").append(i).append(" 0 1;");
        }
        fits(shops.toString(), 8);
        fails(shops + "shop dark 8 0 1;", 3, 140);
        fails(shops + "shop", 3, 140);
        fails(shops + "shops", 1, 140);
        fails(shops + "wall 0 8;", 1, 140);
        fails(same + shops.substring(12), 2, 192 + 12);
        String all = "tower 8 8 1;" + "wall 8 0;".repeat(20) + shops.substring(12);
        fits(all, 8);
        fails(all + "shop lamp 7 7 7;", 3, 320);
        fails(all + "wall 7 7;", 1, 320);
        fails(all + ";", 1, 320);
        DialTown x = Due.of(all);
        due.is("as many walls again", Due.read(x, all), 8);
        due.is("one wall", x.count(2), 1);
    }

    private static void faultsKeepTheTown() {
        DialTown x = Due.of("tower 2 2 3; wall 1 1; shop lamp 5 5 9;");
        x.season(3);
        x.lean(1, -2);
        x.cloud(4, 1);
        x.row(0, 0, 7);
        x.ask(0, 0);
        int open = x.open(70);
        due.is("fault at the end", Due.read(x, "tower 4 4 4; shop dark 1 1 7; shop"), -1000134);
        due.is("fault()", x.fault(), 1);
        due.is("shops", x.count(1), 1);
        due.is("walls", x.count(2), 1);
        due.is("clouds", x.count(3), 1);
        due.is("season", x.count(4), 3);
        due.is("tape", x.count(5), 0);
        due.is("rows", x.count(0), 1);
        due.is("cell", x.shop(0, 0), 50);
        due.is("rent", x.shop(0, 1), 9);
        due.is("kind", x.kind(0), 5);
        due.is("open", x.open(70), open);
        due.is("tower", x.shadow(36, 20), 1);
        due.is("trace", x.trace(0), 14);
        due.is("lean", x.leans(0, 1, -2), 0);
        due.is("a fault after a fault", Due.read(x, "tower 4 4 9;"), -1000110);
        due.is("fault()", x.fault(), 2);
        due.is("a town after it", Due.read(x, "tower 4 4 8;"), 0);
        due.is("fault() stays", x.fault(), 2);
    }

    private static void readTownBeginsAnew() {
        DialTown x = Due.of("tower 2 2 3; wall 1 1; shop lamp 5 5 9;");
        x.season(5);
        x.lean(3, 3);
        x.draw(1, 100);
        x.row(1, 2, 3);
        x.image(0);
        x.leans(0, 1, 1);
        due.is("another town", Due.read(x, "tower 4 4 4; shop dark 4 3 7;"), 1);
        due.is("walls", x.count(2), 0);
        due.is("clouds", x.count(3), 0);
        due.is("season", x.count(4), 1);
        due.is("rows", x.count(0), 1);
        due.is("does not lean", x.shop(0, 2), 17);
        due.is("wall is gone", x.check(10, 0, 1, 0, 0, 0), 0);
        due.is("image stays", x.restore(0), 1);
        due.is("shops of the image", x.shop(0, 0), 50);
        due.is("season of the image", x.count(4), 5);
        due.is("clouds of the image", x.count(3), 73);
    }

    private static void fits(String text, int answer) {
        DialTown x = new DialTown();
        due.is("town of " + text, Due.read(x, text), answer);
    }

    private static void fails(String text, int fault, int place) {
        DialTown x = new DialTown();
        due.is("town of " + text, Due.read(x, text), -1000100 - place);
        due.is("fault of " + text, x.fault(), fault);
        due.is("no town of " + text, x.count(4), 0);
        due.is("no tape of " + text, x.count(5), 0);
    }
}
