/** Part 1 of the terms and promise 6: how much the tape takes, and where a token begins and ends. */
public final class TapeBoundsTest {
    private static final String TOWER = "tower 4 4 4;";
    private static final Due due = new Due();

    public static void main(String[] args) {
        oneToEightBytes();
        theLowestBytesTheHighestFirst();
        bytesHaveNoSign();
        theTapeTakesFourHundred();
        fullTakesNone();
        theTapeIsEmptyAfterATown();
        theTapeLastsUntilATown();
        blanksAreTwoBytes();
        blanksAreNotNeeded();
        blanksInATokenPartIt();
        namesAreSmallLetters();
        bytesBesideTheFigures();
        figuresAreThreeAtMost();
        theSignIsOneByte();
        due.end();
    }

    /** "The lowest n bytes of w (1 to 8)". */
    private static void oneToEightBytes() {
        DialTown x = new DialTown();
        for (int n : new int[] {0, 9, -1, 64, Integer.MIN_VALUE, Integer.MAX_VALUE}) {
            due.is("feed of " + n, x.feed(-1L, n), Due.BAD);
            due.is("none came", x.count(5), 0);
        }
        int fed = 0;
        for (int n = 1; n <= 8; n++) {
            fed += n;
            due.is("feed of " + n, x.feed(-1L, n), fed);
            due.is("as many are on the tape", x.count(5), fed);
        }
    }

    /** "the highest of them first, come behind the tape": by each n, with other bytes above them. */
    private static void theLowestBytesTheHighestFirst() {
        String text = "tower 7 6 8;wall 7 5;shop lamp 0 3 45;";
        for (int n = 1; n <= 8; n++) {
            DialTown x = new DialTown();
            for (int from = 0; from < text.length(); from += n) {
                int many = Math.min(n, text.length() - from);
                long w = 0x7A7A_7A7A_7A7A_7A7AL;
                for (int i = 0; i < many; i++) {
                    w = w << 8 | text.charAt(from + i);
                }
                due.is("feed of " + many, x.feed(w, many), from + many);
            }
            due.is("town fed by " + n, x.town(), 1);
            due.is("its tower", x.shadow(36, 61), 1);
            due.is("its wall", x.soonest(52, 0, 0), Due.NONE);
            due.is("its shop", x.shop(0, 0), 27);
            due.is("its rent", x.shop(0, 1), 45);
        }
    }

    /** A byte from 128 on is on the tape, and no token. */
    private static void bytesHaveNoSign() {
        for (int b : new int[] {0, 128, 160, 128 + 32, 128 + 10, 128 + ';', 255}) {
            DialTown x = Due.of(TOWER);
            Due.feed(x, TOWER);
            due.is("feed of byte " + b, x.feed(b, 1), 13);
            due.is("town with byte " + b, x.town(), -1000112);
            due.is("its fault", x.fault(), 1);
            x.feed(0x2020_2020_2020_2000L | b, 8);
            due.is("town with byte " + b + " behind blanks", x.town(), -1000107);
        }
    }

    /** "THE TAPE has at most 400 bytes". */
    private static void theTapeTakesFourHundred() {
        DialTown by8 = new DialTown();
        for (int fed = 8; fed <= 400; fed += 8) {
            due.is("feed up to " + fed, by8.feed(0x2020_2020_2020_2020L, 8), fed);
        }
        due.is("one more", by8.feed(0x20, 1), Due.FULL);
        due.is("eight more", by8.feed(0x20, 8), Due.FULL);
        due.is("400", by8.count(5), 400);
        DialTown by1 = new DialTown();
        for (int fed = 1; fed <= 400; fed++) {
            due.is("feed up to " + fed, by1.feed(0x20, 1), fed);
        }
        due.is("the 401st", by1.feed(0x20, 1), Due.FULL);
        String text = "tower 8 8 1;" + " ".repeat(372) + "shop dark 0 0 9;";
        DialTown x = new DialTown();
        due.is("a text of 400 bytes", Due.feed(x, text), 400);
        due.is("its town", x.town(), 1);
        due.is("its last number", x.shop(0, 1), 9);
    }

    /** "FULL: none comes", not even those there would have been room for. */
    private static void fullTakesNone() {
        for (int n = 1; n <= 8; n++) {
            DialTown x = new DialTown();
            Due.feed(x, " ".repeat(387));
            due.is("the last text", Due.feed(x, "tower 4 4 4;"), 399);
            due.is("feed of " + n + " where one has room", x.feed(-1L, n == 1 ? 2 : n), Due.FULL);
            due.is("none came", x.count(5), 399);
            due.is("no fault comes of it", x.fault(), 0);
            due.is("one has room", x.feed(0x0A, 1), 400);
            due.is("the text is whole", x.town(), 0);
        }
        DialTown x = new DialTown();
        Due.feed(x, " ".repeat(393));
        due.is("eight where seven have room", x.feed(0x20, 8), Due.FULL);
        due.is("seven where seven have room", x.feed(0x20, 7), 400);
    }

    /** Promise 7: "The tape, empty then". */
    private static void theTapeIsEmptyAfterATown() {
        DialTown x = new DialTown();
        due.is("a town", Due.read(x, TOWER), 0);
        due.is("the tape after it", x.count(5), 0);
        due.is("the same tape is not read again", x.town(), -1000100);
        due.is("a fault", Due.read(x, "wall"), -1000100);
        due.is("the tape after it", x.count(5), 0);
        due.is("what is fed comes first", x.feed(0x20, 1), 1);
        due.is("and is all there is", x.town(), -1000101);
    }

    private static void theTapeLastsUntilATown() {
        DialTown x = Due.of("tower 0 0 1; shop dark 1 1 1;");
        x.image(0);
        due.is("half a text", Due.feed(x, "tower 4 4"), 9);
        x.row(0, 0, 40);
        x.drop(0);
        x.season(3);
        x.undo();
        x.restore(0);
        x.feed(-1L, 9);
        due.is("the tape stays", x.count(5), 9);
        due.is("the other half", Due.feed(x, " 4;"), 12);
        due.is("the town of both", x.town(), 0);
    }

    /** "bytes 32 and 10 ahead of, between, behind these, as many as wanted". */
    private static void blanksAreTwoBytes() {
        for (String blank : new String[] {" ", "\n", "  ", "\n\n", " \n", "\n \n ", " ".repeat(17)}) {
            String text = "@tower@3@4@5@;@wall@1@2@;@shop@dark@6@7@89@;@".replace("@", blank);
            DialTown x = new DialTown();
            due.is("town with blanks", Due.read(x, text), 1);
            due.is("its walls", x.count(2), 1);
            due.is("its rent", x.shop(0, 1), 89);
            due.is("its end is behind the blanks", Due.read(x, text + "shop" + blank),
                -1000100 - text.length() - 4 - blank.length());
        }
        for (char none : new char[] {0, 1, 9, 11, 12, 13, 31, 33, 127, 128 + 10, 128 + 32}) {
            fails(none + TOWER, 1, 0);
            fails(" " + none + TOWER, 1, 1);
            fails("tower" + none + "4 4 4;", 1, 5);
            fails("tower 4 4 4" + none + ";", 1, 11);
            fails(TOWER + none, 1, 12);
        }
    }

    /** "(none is needed where one ends without)". */
    private static void blanksAreNotNeeded() {
        DialTown x = new DialTown();
        due.is("as few as can be", Due.read(x, "tower3 4 5;wall1 2;shop dark6 7 89;shop lamp0 0 0;"), 2);
        due.is("its walls", x.count(2), 1);
        due.is("its rent", x.shop(0, 1), 89);
        due.is("its last shop", x.shop(1, 0), 0);
        fails("tower3 4 5 ;wallx1 2;", 1, 12);
        fails("tower34 5;", 2, 5);
        fails("tower3 45;", 2, 7);
        fails("tower3 4;5;", 1, 8);
        fails("tower3 4 5;shopdark6 7 89;", 1, 11);
    }

    private static void blanksInATokenPartIt() {
        fails("to wer 4 4 4;", 1, 0);
        fails("tower 4 4 4;wa ll 1 1;", 1, 12);
        fails("tower 4 4 4;shop da rk 1 1 1;", 1, 17);
        fails("tower 4 4 4;shop dark 1 1 9 9;", 1, 28);
        fails("tower 4 4 4;wall 0 0 8;", 1, 21);
    }

    /** "NAMES (letters a to z)": the bytes beside them, and capitals, end a name and begin none. */
    private static void namesAreSmallLetters() {
        for (char none : new char[] {'a' - 1, 'z' + 1, 'A', 'Z', 'T', '@', '[', '_'}) {
            fails(none + "tower 4 4 4;", 1, 0);
            fails("tower" + none + " 4 4 4;", 1, 5);
            fails("tower" + none + "4 4 4;", 1, 5);
            fails("tow" + none + "er 4 4 4;", 1, 0);
            fails(TOWER + "shop dark" + none + " 1 1 1;", 1, 21);
            fails(TOWER + none, 1, 12);
        }
        for (char letter : new char[] {'a', 'z'}) {
            fails("tower" + letter + " 4 4 4;", 1, 0);
            fails(letter + "tower 4 4 4;", 1, 0);
            fails("tower 4" + letter + " 4;", 1, 7);
            fails(TOWER + "shop dark" + letter + " 1 1 1;", 1, 17);
        }
        String[] words = {"tower", "wall", "shop", "dark", "sunny", "noon", "mass", "lamp"};
        String whole = "tower 4 4 4;wall 0 0;shop dark 1 0 1;shop sunny 2 0 1;shop noon 3 0 1;shop mass 4 0 1;shop lamp 5 0 1;";
        due.is("whole words", Due.read(new DialTown(), whole), 5);
        for (String word : words) {
            int at = whole.indexOf(word);
            String ahead = whole.substring(0, at);
            String behind = whole.substring(at + word.length());
            fails(ahead + word.substring(0, word.length() - 1) + behind, 1, at);
            fails(ahead + word.substring(1) + behind, 1, at);
            fails(ahead + word + "s" + behind, 1, at);
            fails(ahead + word + word + behind, 1, at);
            fails(ahead + word.toUpperCase() + behind, 1, at);
            for (int i = 0; i < word.length(); i++) {
                fails(ahead + word.substring(0, i) + "q" + word.substring(i + 1) + behind, 1, at);
            }
        }
    }

    private static void bytesBesideTheFigures() {
        for (char none : new char[] {'0' - 1, '9' + 1, '-', '+', '.', ','}) {
            fails("tower " + none + "4 4 4;", 1, 6);
            fails("tower " + none + " 4 4;", 1, 6);
            fails("tower 4" + none + " 4 4;", 1, 7);
            fails("tower 4 4 4" + none + ";", 1, 11);
        }
        fits("tower 0 0 1;shop dark 8 8 09;", 1);
    }

    /** "NUMBERS (figures, 3 at most)"; "a run of four figures or more, at its first". */
    private static void figuresAreThreeAtMost() {
        fits("tower 4 4 4;", 0);
        fits("tower 04 04 04;", 0);
        fits("tower 004 004 004;", 0);
        fails("tower 0004 4 4;", 1, 6);
        fails("tower 4 0004 4;", 1, 8);
        fails("tower 4 4 0004;", 1, 10);
        fails(TOWER + "wall 0001 1;", 1, 17);
        fails(TOWER + "wall 1 0001;", 1, 19);
        fails(TOWER + "shop dark 0001 1 1;", 1, 22);
        fails(TOWER + "shop dark 1 0001 1;", 1, 24);
        fails(TOWER + "shop dark 1 1 0001;", 1, 26);
        fails("tower 4 4 00001;", 1, 10);
        fails("tower 999 4 4;", 2, 6);
        fails("tower 9999 4 4;", 1, 6);
        fails("tower " + "0".repeat(394), 1, 6);
        fails("tower 4294967300 4 4;", 1, 6);
        fails("tower 4 4 4" + "4".repeat(389), 1, 10);
        fails("1234", 1, 0);
    }

    private static void theSignIsOneByte() {
        for (char none : new char[] {';' - 1, ';' + 1, ',', '.'}) {
            fails("tower 4 4 4" + none, 1, 11);
            fails(TOWER + "wall 1 1" + none, 1, 20);
            fails(TOWER + "shop dark 1 1 1" + none, 1, 27);
        }
        fails("tower 4 4 4;;", 1, 12);
        fails(TOWER + "wall 1 1;;", 1, 21);
        fails(TOWER + "shop dark 1 1 1;;", 1, 28);
    }

    private static void fits(String text, int answer) {
        due.is("town of " + text, Due.read(new DialTown(), text), answer);
    }

    private static void fails(String text, int fault, int place) {
        DialTown x = new DialTown();
        due.is("town of " + text, Due.read(x, text), -1000100 - place);
        due.is("fault of " + text, x.fault(), fault);
    }
}
