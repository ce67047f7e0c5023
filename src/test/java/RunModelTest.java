import java.math.BigInteger;
import java.nio.charset.StandardCharsets;
import java.util.ArrayList;
import java.util.Arrays;
import java.util.List;
import java.util.Random;

/**
 * Random runs of all calls, in which one call meets what the others left: towns read anew, shops undone and more of
 * them, leans, clouds, images, rows, kinds. Every answer, with status() behind it, is compared with PlainTown's.
 * The seeds are fixed, so each run is the same.
 */
public final class RunModelTest {
    private static final int CALLS = 512, CHOICES = 45;
    private static final String[] SORTS = {"dark", "sunny", "noon", "mass", "lamp"};
    private static final String[] SPOILT = {"wall 4 4;", "shop dark 9 1 1;", "shop lamp 1 1 100;", "shop moon 1 1 1;",
        "tower", "1", ";", "wall 1", "shop sunny 1 1 1", "0000", "S", "shop"};
    private static final Due due = new Due();

    private interface Call {
        int of(int[] args);
    }

    private final Random random;
    private final DialTown x = new DialTown();
    private final PlainTown plain = new PlainTown();
    private final List<String> run = new ArrayList<>();
    private final String name;
    private int asked;

    private RunModelTest(long seed) {
        random = new Random(seed);
        name = "seed " + seed;
    }

    public static void main(String[] args) {
        for (int seed = 1; seed <= 700; seed++) {
            new RunModelTest(seed).run();
        }
        due.end();
    }

    private void run() {
        for (int early = random.nextInt(30); early > 0; early--) {
            call(random.nextInt(CHOICES));
        }
        for (int tries = 0; tries < 4 && plain.count(4) == 0; tries++) {
            readTown(20 + random.nextInt(100), false);
        }
        for (int shop = random.nextInt(9); shop > 0; shop--) {
            more(freeCell());
        }
        while (asked < CALLS - 2) {
            call(random.nextInt(CHOICES));
        }
        due.is(name + " asks no more than is promised", asked <= CALLS ? 1 : 0, 1);
    }

    private void same(String call, Call ofClass, Call ofPlain, int... args) {
        int got = ofClass.of(args);
        int want = ofPlain.of(args);
        asked++;
        run.add(call + Arrays.toString(args) + " = " + got);
        due.is(got == want ? call : name + " " + run, got, want);
        if (asked < CALLS && random.nextInt(4) == 0) {
            asked++;
            due.is(name + " status() behind " + run.get(run.size() - 1), x.status(), plain.status());
        }
    }

    /** Mostly a number from least to most, else one close to these, or a wild one. */
    private int from(int least, int most) {
        int sort = random.nextInt(40);
        if (sort == 0) {
            return random.nextInt();
        }
        int beside = random.nextInt(3) - 1;
        int inside = least + random.nextInt(Math.max(1, most - least + 1));
        return sort == 1 ? least + beside : sort == 2 ? most + beside : inside;
    }

    private int slot() {
        int[] edges = {0, 11, 12, 29, 30, 35, 36, 37, 42, 43, 60, 61, 72};
        return random.nextInt(3) == 0 ? edges[random.nextInt(edges.length)] : from(0, 72);
    }

    private int cell() {
        boolean isShop = random.nextInt(3) == 0 && plain.count(1) > 0;
        int at = isShop ? plain.shop(random.nextInt(plain.count(1)), 0) : from(0, 80);
        return random.nextInt(5) == 0 ? at + new int[] {-9, 1, 9, -1}[random.nextInt(4)] : at;
    }

    private int freeCell() {
        for (int i = 0; i < 20; i++) {
            int cell = random.nextInt(81);
            if (plain.isFree(cell)) {
                return cell;
            }
        }
        return cell();
    }

    private int shop() {
        return from(0, plain.count(1) - 1);
    }

    private int shops() {
        int all = (1 << plain.count(1)) - 1;
        return random.nextInt(12) == 0 ? from(0, all) : all & random.nextInt(256) & random.nextInt(256);
    }

    private void call(int choice) {
        switch (choice) {
            case 0, 1, 2 -> same("row", a -> x.row(a[0], a[1], a[2]), a -> plain.row(a[0], a[1], a[2]),
                from(0, 7), from(0, 2), from(0, 40));
            case 3 -> same("drop", a -> x.drop(a[0]), a -> plain.drop(a[0]), from(0, 7));
            case 4, 5 -> copy(from(0, 7), from(0, 7));
            case 6 -> copyWithin();
            case 7, 8 -> set(from(0, 7), from(0, 10), random.nextBoolean() ? random.nextInt() : from(-35000, 35000));
            case 9 -> same("season", a -> x.season(a[0]), a -> plain.season(a[0]), from(1, 6));
            case 10 -> same("lean", a -> x.lean(a[0], a[1]), a -> plain.lean(a[0], a[1]), from(-3, 3), from(-3, 3));
            case 11 -> same("cloud", a -> x.cloud(a[0], a[1]), a -> plain.cloud(a[0], a[1]), slot(), from(0, 1));
            case 12 -> more(freeCell());
            case 13 -> more(cell());
            case 14 -> same("undo", a -> x.undo(), a -> plain.undo());
            case 15 -> same("draw", a -> x.draw(a[0], a[1]), a -> plain.draw(a[0], a[1]),
                from(1, 999999), random.nextBoolean() ? from(0, 20) : from(0, 100));
            case 16, 17, 18 -> same("shadow", a -> x.shadow(a[0], a[1]), a -> plain.shadow(a[0], a[1]), slot(), cell());
            case 19, 20 -> same("open", a -> x.open(a[0]), a -> plain.open(a[0]), slot());
            case 21, 22 -> same("shop", a -> x.shop(a[0], a[1]), a -> plain.shop(a[0], a[1]), shop(), from(0, 4));
            case 23 -> spoiltTextOrBytes();
            default -> laterCall(choice);
        }
    }

    private void laterCall(int choice) {
        switch (choice) {
            case 24, 25 -> same("soonest", a -> x.soonest(a[0], a[1], a[2]), a -> plain.soonest(a[0], a[1], a[2]),
                cell(), slot(), shops());
            case 26, 27, 28 -> walk();
            case 29, 30 -> thief(slot());
            case 31 -> same("longest", a -> x.longest(a[0], a[1]), a -> plain.longest(a[0], a[1]), from(0, 4), from(0, 1));
            case 32 -> same("bills", a -> x.bills(a[0], a[1]), a -> plain.bills(a[0], a[1]), slot(), shops());
            case 33 -> openBills(slot());
            case 34, 35 -> same("leans", a -> x.leans(a[0], a[1], a[2]), a -> plain.leans(a[0], a[1], a[2]),
                shop(), from(-3, 3), from(-3, 3));
            case 36 -> same("image", a -> x.image(a[0]), a -> plain.image(a[0]), from(0, 1));
            case 37 -> same("restore", a -> x.restore(a[0]), a -> plain.restore(a[0]), from(0, 1));
            case 38 -> same("kind", a -> x.kind(a[0]), a -> plain.kind(a[0]), shop());
            case 39 -> same("as", a -> x.as(a[0], a[1]), a -> plain.as(a[0], a[1]), shop(), from(0, 5));
            case 40, 41 -> same("ask", a -> x.ask(a[0], a[1]), a -> plain.ask(a[0], a[1]), shop(), from(0, 1));
            case 42 -> same("trace", a -> x.trace(a[0]), a -> plain.trace(a[0]), from(0, 8));
            case 43 -> same("count", a -> x.count(a[0]), a -> plain.count(a[0]), from(0, 5));
            default -> same("fault", a -> x.fault(), a -> plain.fault());
        }
    }

    private void copy(int from, int to) {
        same("copy", a -> x.copy(a[0], a[1], a[2], a[3], a[4]), a -> plain.copy(a[0], a[1], a[2], a[3], a[4]),
            from, from(0, 10), to, from(0, 10), from(0, 10));
    }

    /** A row has the same lane as itself, so most of these are not found; its items may overlap. */
    private void copyWithin() {
        int row = from(0, 7);
        copy(row, row);
    }

    private void set(int row, int i, int v) {
        same("set", a -> x.set(a[0], a[1], a[2]), a -> plain.set(a[0], a[1], a[2]), row, i, v);
    }

    private void more(int cell) {
        same("more", a -> x.more(a[0], a[1], a[2]), a -> plain.more(a[0], a[1], a[2]), from(0, 4), cell, from(0, 99));
    }

    private void thief(int first) {
        same("thief", a -> x.thief(a[0], a[1], a[2], a[3]), a -> plain.thief(a[0], a[1], a[2], a[3]),
            cell(), first, cell(), from(first, 72));
    }

    private void openBills(int slot) {
        same("bills", a -> x.bills(a[0], a[1]), a -> plain.bills(a[0], a[1]), slot, plain.open(slot));
    }

    /** Lays a row of ways now and then, so that most walks go on for some steps. */
    private void walk() {
        int row = from(0, 7);
        if (random.nextInt(4) == 0 && asked < CALLS - 30) {
            int n = 3 + random.nextInt(8);
            same("row", a -> x.row(a[0], a[1], a[2]), a -> plain.row(a[0], a[1], a[2]), row, random.nextInt(3), n);
            for (int i = 0; i < n; i++) {
                set(row, i, random.nextInt(30) == 0 ? from(-1, 5) : random.nextInt(5));
            }
        }
        int[] walk = {cell(), slot(), row, from(0, 3), random.nextInt(6) == 0 ? from(0, 40) : from(0, 7)};
        for (int what = 0; what <= 1 && asked < CALLS - 1; what++) {
            same("check", a -> x.check(a[0], a[1], a[2], a[3], a[4], a[5]),
                a -> plain.check(a[0], a[1], a[2], a[3], a[4], a[5]),
                walk[0], walk[1], walk[2], walk[3], walk[4], random.nextInt(30) == 0 ? from(0, 1) : what);
        }
    }

    private void spoiltTextOrBytes() {
        switch (random.nextInt(4)) {
            case 0 -> readTown(random.nextInt(120), false);
            case 1 -> readTown(random.nextInt(120), true);
            case 2 -> feed(random.nextLong(), from(1, 8));
            default -> same("town", a -> x.town(), a -> plain.town());
        }
    }

    private void feed(long w, int n) {
        same("feed of " + w, a -> x.feed(w, a[0]), a -> plain.feed(w, a[0]), n);
    }

    /** A town of walls and shops by chance, so that some are told where something is; read when all of it is fed. */
    private void readTown(int length, boolean isSpoilt) {
        StringBuilder text = new StringBuilder("tower").append(place()).append(' ');
        text.append(1 + random.nextInt(8)).append(';');
        for (int walls = random.nextInt(8); walls > 0 && text.length() < length / 2; walls--) {
            text.append("wall").append(place()).append(";\n");
        }
        while (text.length() < length) {
            text.append("shop ").append(SORTS[random.nextInt(5)]).append(place());
            text.append(' ').append(random.nextInt(100)).append(';');
        }
        if (isSpoilt) {
            text.append(SPOILT[random.nextInt(SPOILT.length)]);
        }
        byte[] bytes = text.toString().getBytes(StandardCharsets.ISO_8859_1);
        if (asked + 2 * (bytes.length / 8 + 3) > CALLS) {
            return;
        }
        if (plain.count(5) > 0 && random.nextInt(8) > 0) {
            same("town", a -> x.town(), a -> plain.town());
        }
        for (int at = 0; at < bytes.length; at += 8) {
            byte[] piece = Arrays.copyOfRange(bytes, at, Math.min(bytes.length, at + 8));
            feed(new BigInteger(1, piece).longValue(), piece.length);
        }
        same("town", a -> x.town(), a -> plain.town());
    }

    private String place() {
        return random.nextInt(9) + " " + random.nextInt(9);
    }
}
