import java.nio.charset.StandardCharsets;

/** What the tests share: answers that are due, texts that are fed, and towns to begin with. */
final class Due {
    static final int NONE = DialTown.NONE, BAD = DialTown.BAD, STATE = DialTown.STATE, FULL = DialTown.FULL;
    static final int NULL = -1000011, PLACE = -1000012, KIND = -1000013, SIZE = -1000014, STORE = -1000015;

    private int right = 0;
    private int wrong = 0;

    void is(String call, long got, long want) {
        if (got == want) {
            right++;
        } else {
            wrong++;
            System.out.println(call + " answered " + got + ", due is " + want);
        }
    }

    /** Ends the test; with exit code 1 if an answer was wrong, or none was asked for. */
    void end() {
        System.out.println(right + " answers are as due, " + wrong + " are not");
        if (wrong != 0 || right == 0) {
            System.exit(1);
        }
    }

    static int feed(DialTown x, String text) {
        byte[] bytes = text.getBytes(StandardCharsets.ISO_8859_1);
        int length = 0;
        for (int from = 0; from < bytes.length; from += 8) {
            int n = Math.min(8, bytes.length - from);
            long w = 0;
            for (int i = 0; i < n; i++) {
                w = w << 8 | bytes[from + i] & 255;
            }
            length = x.feed(w, n);
        }
        return length;
    }

    static int read(DialTown x, String text) {
        feed(x, text);
        return x.town();
    }

    static DialTown of(String text) {
        DialTown x = new DialTown();
        int answer = read(x, text);
        if (answer < 0) {
            System.out.println("no town by the text " + text + ": " + answer);
            System.exit(1);
        }
        return x;
    }

    static void row(DialTown x, int row, int... items) {
        rowOf(x, row, 2, items);
    }

    static void rowOf(DialTown x, int row, int lane, int... items) {
        x.row(row, lane, items.length);
        for (int i = 0; i < items.length; i++) {
            x.set(row, i, items[i]);
        }
    }

    /**
     * The way that an item tells, 0 to 4, or NONE: each way is tried from the middle of the four sides of a
     * town without walls whose tower is inside; only one that leads off the town cannot be.
     */
    static int wayAt(DialTown x, int row, int i) {
        int[] middles = {4, 44, 76, 36};
        int stopped = 0;
        for (int side = 0; side < middles.length; side++) {
            stopped |= x.check(middles[side], 0, row, i, 1, 0) << side;
        }
        switch (stopped) {
            case 0: return 4;
            case 1: return 0;
            case 2: return 1;
            case 4: return 2;
            case 8: return 3;
            default: return NONE;
        }
    }

    void ways(String name, DialTown x, int row, int... ways) {
        for (int i = 0; i < ways.length; i++) {
            is(name + ": item " + i, wayAt(x, row, i), ways[i]);
        }
    }
}
