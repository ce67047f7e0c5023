import java.util.Random;

/**
 * Random calls with wild numbers, 512 an object: no call throws, answers are numbers that the call can
 * give, and what is refused or found changes nothing but status(). The seeds are fixed.
 */
public final class StormTest {
    private static final int CALLS = 512;
    /** More than one call of words() can feed. */
    private static final int MOST_OF_WORDS = 40;
    private static final int[] WILD = {Integer.MIN_VALUE, Integer.MAX_VALUE, -1, 0, 1, 2, 5, 6, 7, 8, 9, 36, 39, 40,
        41, 71, 72, 73, 80, 81, 99, 100, 101, 255, 256, 400, -1000000, 1 << 31 - 1};
    private static final String[] WORDS = {"tower", "wall", "shop", "dark", "sunny", "noon", "mass", "lamp", ";", " ",
        "\n", "0", "4", "8", "9", "99", "100", "1000", "x", "\u00e9", "4 4 ", "tower 4 4 4;", "wall 1 1;",
        "shop dark 4 3 9;", "shop noon 3 3 1;"};
    private static final Due due = new Due();

    private final Random random;
    private DialTown x = new DialTown();
    private String call = "";
    /** How many calls the object has answered. */
    private int asked;
    /** Of a call of set(): an item of ints may look like a refusal. */
    private boolean isAnyNumber;

    private StormTest(long seed) {
        random = new Random(seed);
    }

    public static void main(String[] args) {
        for (int seed = 1; seed <= 400; seed++) {
            StormTest storm = new StormTest(seed);
            storm.calls("seed " + seed + " ");
            storm.refusedCallsChangeNothing("seed " + seed + " ");
        }
        due.end();
    }

    private void calls(String name) {
        x = new DialTown();
        asked = 0;
        while (asked < CALLS - MOST_OF_WORDS) {
            asked++;
            try {
                int answer = call();
                due.is(name + call + " is an answer: " + answer, isAnyNumber || isAnswer(answer) ? 1 : 0, 1);
            } catch (RuntimeException thrown) {
                due.is(name + call + " threw " + thrown, 1, 0);
            }
        }
    }

    private static boolean isAnswer(int answer) {
        return answer >= -1000500 && answer <= -1000100 || answer >= -1000015 && answer <= -1000011
            || answer >= Due.FULL && answer <= Due.NONE || answer >= -500000;
    }

    private void refusedCallsChangeNothing(String name) {
        for (int i = 0; i < 20; i++) {
            x = Due.of("tower 4 4 8; wall 1 1; wall 2 6; shop dark 3 4 9; shop lamp 0 0 8;");
            Due.row(x, 0, 4, 3, 2, 1);
            x.row(1, 0, 3);
            x.lean(random.nextInt(7) - 3, random.nextInt(7) - 3);
            x.season(1 + random.nextInt(6));
            x.draw(1 + random.nextInt(900000), 20);
            x.image(0);
            x.ask(random.nextInt(2), random.nextInt(2));
            for (int shop = 0; shop < random.nextInt(7); shop++) {
                x.more(random.nextInt(5), random.nextInt(81), random.nextInt(100));
            }
            String before = state();
            int answer = call();
            boolean isItem = isAnyNumber && x.status() == 0 && answer != Due.BAD;
            if (!isItem && answer <= Due.NONE && answer > -1000100) {
                due.is(name + call + " changed the state", before.equals(state()) ? 1 : 0, 1);
            }
        }
    }

    /** What some two hundred calls tell of an object, all but its status. */
    private String state() {
        StringBuilder state = new StringBuilder();
        for (int i = 0; i <= 5; i++) {
            state.append(x.count(i)).append(' ').append(x.trace(i)).append(' ');
        }
        for (int slot = 0; slot <= 72; slot++) {
            state.append(x.open(slot)).append(' ');
        }
        for (int shop = 0; shop < x.count(1); shop++) {
            for (int what = 0; what <= 4; what++) {
                state.append(x.shop(shop, what)).append(' ');
            }
            state.append(x.kind(shop)).append(' ');
        }
        for (int cell = 0; cell <= 80; cell++) {
            state.append(x.thief(cell, 0, cell, 0)).append(' ');
        }
        return state.append(x.check(76, 0, 0, 0, 4, 0)).append(' ').append(x.fault()).toString();
    }

    private int some() {
        int sort = random.nextInt(10);
        return sort == 0 ? random.nextInt() : sort <= 2 ? WILD[random.nextInt(WILD.length)]
            : sort <= 6 ? random.nextInt(6) : random.nextInt(90) - 4;
    }

    private int call() {
        int[] a = {some(), some(), some(), some(), some(), some()};
        int which = random.nextInt(30);
        isAnyNumber = which == 1;
        call = "call " + which + " " + java.util.Arrays.toString(a);
        switch (which) {
            case 0: return x.row(a[0], a[1], a[2]);
            case 1: return x.set(a[0], a[1], a[2]);
            case 2: return x.copy(a[0], a[1], a[2], a[3], a[4]);
            case 3: return x.drop(a[0]);
            case 4: return random.nextBoolean() ? x.feed(random.nextLong(), a[0]) : words();
            case 5: return x.town();
            case 6: return x.fault();
            case 7: return x.season(a[0]);
            case 8: return x.lean(a[0], a[1]);
            case 9: return x.cloud(a[0], a[1]);
            case 10: return x.draw(a[0], a[1]);
            case 11: return x.more(a[0], a[1], a[2]);
            case 12: return x.undo();
            case 13: return x.shadow(a[0], a[1]);
            case 14: return x.open(a[0]);
            case 15: return x.shop(a[0], a[1]);
            default: return laterCall(which, a);
        }
    }

    private int laterCall(int which, int[] a) {
        switch (which) {
            case 16: return x.soonest(a[0], a[1], a[2]);
            case 17: return x.check(a[0], a[1], a[2], a[3], a[4], a[5]);
            case 18: return x.thief(a[0], a[1], a[2], a[3]);
            case 19: return x.longest(a[0], a[1]);
            case 20: return x.bills(a[0], a[1]);
            case 21: return x.leans(a[0], a[1], a[2]);
            case 22: return x.image(a[0]);
            case 23: return x.restore(a[0]);
            case 24: return x.kind(a[0]);
            case 25: return x.as(a[0], a[1]);
            case 26: return x.ask(a[0], a[1]);
            case 27: return x.trace(a[0]);
            case 28: return x.count(a[0]);
            default: return x.status();
        }
    }

    private int words() {
        StringBuilder text = new StringBuilder();
        for (int words = random.nextInt(12); words >= 0; words--) {
            text.append(WORDS[random.nextInt(WORDS.length)]);
        }
        int fed = x.count(5) == 0 ? Due.feed(x, "tower 4 4 4;") : 0;
        Due.feed(x, text.toString());
        asked += 4 + text.length() / 8;
        return random.nextBoolean() ? x.town() : fed;
    }
}
