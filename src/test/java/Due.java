import java.nio.charset.StandardCharsets;

/** What the tests share: answers that are due, texts that are fed, and towns to begin with. */
final class Due {
    static final int NONE = DialTown.NONE, BAD = DialTown.BAD, STATE = DialTown.STATE, FULL = DialTown.FULL;
    static final int NULL = -1000011, PLACE = -1000012, KIND = -1000013, SIZE = -1000014, STORE = -1000015;

    private int right = 0;
    private int wrong = 0;

    void is(String call, long got, long want) {
        if (got == want) {
            right++;
        } else {
            wrong++;
            System.out.println(call + " answered " + got + ", due is " + want);
        }
    }

    /** Ends the test; with exit code 1 if an answer was wrong, or none was asked for. */
    void end() {
        System.out.println(right + " answers are as due, " + wrong + " are not");
        if (wrong != 0 || right == 0) {
            System.exit(1);
        }
    }

    static int feed(DialTown x, String text) {
        byte[] bytes = text.getBytes(StandardCharsets.ISO_8859_1);
        int length = 0;
        for (int from = 0; from < bytes.length; from += 8) {
            int n = Math.min(8, bytes.length - from);
            long w = 0;
            for (int i = 0; i < n; i++) {
                w = w << 8 | bytes[from + i] & 255;
            }
            length = x.feed(w, n);
        }
        return length;
    }

    static int read(DialTown x, String text) {
        feed(x, text);
        return x.town();
    }

    static DialTown of(String text) {
        DialTown x = new DialTown();
        int answer = read(x, text);
        if (answer < 0) {
            System.out.println("no town by the text " + text + ": " + answer);
            System.exit(1);
        }
        return x;
    }

    static void row(DialTown x, int row, int... items) {
        x.row(row, 2, items.length);
        for (int i = 0; i < items.length; i++) {
            x.set(row, i, items[i]);
        }
    }
}
