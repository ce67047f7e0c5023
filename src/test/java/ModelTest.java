import java.util.Arrays;
import java.util.Random;

/**
 * Random towns against a second model of the document, told slot by slot: where a walker can be with
 * which shops visited, which cells a shadow takes. The seeds are fixed, so each run is the same.
 */
public final class ModelTest {
    private static final String[] SORTS = {"dark", "sunny", "noon", "mass", "lamp"};
    private static final Due due = new Due();

    private final Random random;
    private final StringBuilder text = new StringBuilder();
    private final char[] ground = new char[81];
    private final int[] sorts = new int[8];
    private final int[] cells = new int[8];
    private final int[] rents = new int[8];
    private final boolean[] clouds = new boolean[73];
    private int shops;
    private int tower;
    private int reach;
    private int season = 1;
    private int leanEast;
    private int leanNorth;
    private int seed;
    private int percent;
    private int drawn;

    private ModelTest(long seed) {
        random = new Random(seed);
        Arrays.fill(ground, ' ');
    }

    public static void main(String[] args) {
        for (int seed = 1; seed <= 150; seed++) {
            new ModelTest(seed).compare("seed " + seed + " ");
        }
        due.end();
    }

    private void compare(String name) {
        tell();
        weather();
        geometry(name);
        rents(town(), name);
        places(town(), name);
        DialTown x = town();
        for (int i = 0; i < 12; i++) {
            errand(x, name);
            thief(x, name);
            check(x, name);
        }
    }

    /** A new object each time, since one answers 512 calls. */
    private DialTown town() {
        DialTown x = Due.of(text.toString());
        x.season(season);
        x.lean(leanEast, leanNorth);
        due.is("draw", x.draw(seed, percent), drawn);
        return x;
    }

    private void tell() {
        tower = random.nextInt(81);
        reach = 1 + random.nextInt(8);
        ground[tower] = 'T';
        text.append("tower ").append(tower % 9).append(' ').append(tower / 9).append(' ').append(reach).append(';');
        for (int walls = random.nextInt(21); walls > 0; walls--) {
            int cell = random.nextInt(81);
            if (cell != tower) {
                ground[cell] = 'W';
                text.append("wall").append(cell % 9).append(' ').append(cell / 9).append(";\n");
            }
        }
        for (int told = random.nextInt(9); told > 0; told--) {
            int cell = random.nextInt(3) == 0 ? nearTower() : random.nextInt(81);
            if (ground[cell] == ' ') {
                addShop(random.nextInt(5), cell, random.nextInt(100));
            }
        }
    }

    private int nearTower() {
        int x = Math.min(8, Math.max(0, tower % 9 + random.nextInt(3) - 1));
        int y = Math.min(8, Math.max(0, tower / 9 - 1 - random.nextInt(2)));
        return x + 9 * y;
    }

    private void addShop(int sort, int cell, int rent) {
        ground[cell] = 'S';
        sorts[shops] = sort;
        cells[shops] = cell;
        rents[shops] = rent;
        shops++;
        text.append("shop ").append(SORTS[sort]).append(cell % 9).append(' ').append(cell / 9).append(' ')
            .append(rent).append(';');
    }

    private void weather() {
        season = 1 + random.nextInt(6);
        leanEast = random.nextInt(7) - 3;
        leanNorth = random.nextInt(7) - 3;
        seed = 1 + random.nextInt(999999);
        percent = random.nextInt(40);
        long rest = seed;
        for (int slot = 0; slot <= 72; slot++) {
            rest = Math.floorMod(rest * 16807, 2147483647L);
            clouds[slot] = rest % 100 < percent;
            drawn += clouds[slot] ? 1 : 0;
        }
    }

    private boolean[] shadow(int slot, int ofSeason, int east, int north) {
        boolean[] dark = new boolean[81];
        dark[tower] = true;
        int tipEast = (int) ((slot - 36) * reach / 36.0) + east;
        int tipNorth = ofSeason + north;
        int steps = Math.max(Math.abs(tipEast), Math.abs(tipNorth));
        for (int k = 1; k <= steps; k++) {
            int toX = tower % 9 + (int) ((double) k * tipEast / steps);
            int toY = tower / 9 - (int) ((double) k * tipNorth / steps);
            if (toX < 0 || toX > 8 || toY < 0 || toY > 8 || ground[toX + 9 * toY] == 'W') {
                break;
            }
            dark[toX + 9 * toY] = true;
        }
        return dark;
    }

    private static boolean isOpen(int sort, boolean dark, int slot) {
        boolean noon = dark && 30 <= slot && slot <= 42;
        return switch (SORTS[sort]) {
            case "dark" -> dark;
            case "sunny" -> !dark;
            case "noon" -> noon;
            case "mass" -> noon || slot == 36;
            default -> !dark && (slot < 12 || slot > 60);
        };
    }

    private int openShops(int slot, int ofSeason, int east, int north) {
        boolean[] dark = shadow(slot, ofSeason, east, north);
        int open = 0;
        for (int shop = 0; shop < shops; shop++) {
            open += isOpen(sorts[shop], dark[cells[shop]], slot) ? 1 << shop : 0;
        }
        return open;
    }

    private int openNow(int slot) {
        return clouds[slot] ? 0 : openShops(slot, season, leanEast, leanNorth);
    }

    private void geometry(String name) {
        for (int slot = 0; slot <= 72; slot += 1 + random.nextInt(6)) {
            DialTown x = town();
            boolean[] dark = shadow(slot, season, leanEast, leanNorth);
            for (int cell = 0; cell < 81; cell++) {
                due.is(name + "shadow(" + slot + ", " + cell + ")", x.shadow(slot, cell), dark[cell] ? 1 : 0);
            }
            due.is(name + "open(" + slot + ")", x.open(slot), openNow(slot));
        }
    }

    private void rents(DialTown x, String name) {
        for (int shop = 0; shop < shops; shop++) {
            int east = random.nextInt(7) - 3;
            int north = random.nextInt(7) - 3;
            int day = 0;
            int year = 0;
            int other = 0;
            for (int slot = 0; slot <= 72; slot++) {
                day += openNow(slot) >> shop & 1;
                other += clouds[slot] ? 0 : openShops(slot, season, east, north) >> shop & 1;
                for (int s = 1; s <= 6; s++) {
                    year += openShops(slot, s, leanEast, leanNorth) >> shop & 1;
                }
            }
            due.is(name + "slots", x.shop(shop, 2), day);
            due.is(name + "rents", x.shop(shop, 3), rents[shop] * day);
            due.is(name + "year", x.shop(shop, 4), rents[shop] * year);
            due.is(name + "leans", x.leans(shop, east, north), other - day);
        }
    }

    private void places(DialTown x, String name) {
        for (int sort = 0; sort < 5; sort++) {
            int best = -1;
            int most = -1;
            for (int cell = 80; cell >= 0; cell--) {
                int slots = 0;
                for (int slot = 0; slot <= 72; slot++) {
                    boolean dark = shadow(slot, season, leanEast, leanNorth)[cell];
                    slots += !clouds[slot] && isOpen(sort, dark, slot) ? 1 : 0;
                }
                if (ground[cell] == ' ' && slots >= most) {
                    best = cell;
                    most = slots;
                }
            }
            due.is(name + "longest cell", x.longest(sort, 0), best);
            due.is(name + "longest slots", x.longest(sort, 1), most);
        }
        for (int i = 0; i < 10; i++) {
            int slot = random.nextInt(73);
            int told = random.nextInt(4) == 0 ? random.nextInt(1 << shops)
                : openShops(slot, 1 + random.nextInt(6), leanEast, leanNorth);
            int fit = 0;
            for (int s = 1; s <= 6; s++) {
                fit += openShops(slot, s, leanEast, leanNorth) == told ? 1 << s : 0;
            }
            due.is(name + "bills(" + slot + ", " + told + ")", x.bills(slot, told), fit);
        }
    }

    private boolean isWalkable(int cell) {
        return ground[cell] == ' ' || ground[cell] == 'S';
    }

    private int shopAt(int cell) {
        for (int shop = 0; shop < shops; shop++) {
            if (cells[shop] == cell) {
                return 1 << shop;
            }
        }
        return 0;
    }

    private int beside(int cell, int way) {
        int toX = cell % 9 + (way == 1 ? 1 : way == 3 ? -1 : 0);
        int toY = cell / 9 + (way == 2 ? 1 : way == 0 ? -1 : 0);
        boolean isCell = way >= 0 && way <= 4 && toX >= 0 && toX <= 8 && toY >= 0 && toY <= 8;
        return isCell && isWalkable(toX + 9 * toY) ? toX + 9 * toY : -1;
    }

    /** All that can be, slot by slot: [cell][set of shops visited]. */
    private boolean[][] first(int cell, int slot) {
        boolean[][] can = new boolean[81][256];
        can[cell][openNow(slot) & shopAt(cell)] = true;
        return can;
    }

    private boolean[][] step(boolean[][] can, int toSlot) {
        boolean[][] next = new boolean[81][256];
        int open = openNow(toSlot);
        for (int cell = 0; cell < 81; cell++) {
            for (int way = 0; way <= 4; way++) {
                int to = beside(cell, way);
                for (int set = 0; to >= 0 && set < 1 << shops; set++) {
                    if (can[cell][set]) {
                        next[to][set | open & shopAt(to)] = true;
                    }
                }
            }
        }
        return next;
    }

    private void errand(DialTown x, String name) {
        int cell = random.nextInt(81);
        int slot = random.nextInt(73);
        int told = random.nextInt(1 << shops) & random.nextInt(1 << shops);
        int want = Due.NONE;
        if (isWalkable(cell)) {
            boolean[][] can = first(cell, slot);
            for (int at = slot; at <= 72 && want == Due.NONE; at++) {
                can = at == slot ? can : step(can, at);
                want = isDone(can, told) ? at - slot : Due.NONE;
            }
        }
        due.is(name + "soonest(" + cell + ", " + slot + ", " + told + ")", x.soonest(cell, slot, told), want);
    }

    private static boolean isDone(boolean[][] can, int told) {
        for (boolean[] sets : can) {
            for (int set = 0; set < 256; set++) {
                if (sets[set] && (set & told) == told) {
                    return true;
                }
            }
        }
        return false;
    }

    private void thief(DialTown x, String name) {
        int a = random.nextInt(81);
        int b = random.nextInt(81);
        int s = random.nextInt(73);
        int t = Math.min(72, s + random.nextInt(25));
        int want = Due.NONE;
        if (isWalkable(a) && isWalkable(b)) {
            boolean[][] can = first(a, s);
            for (int at = s + 1; at <= t; at++) {
                can = step(can, at);
            }
            for (int set = 0; set < 256; set++) {
                if (can[b][set]) {
                    want = want == Due.NONE ? set : want | set;
                }
            }
        }
        due.is(name + "thief(" + a + ", " + s + ", " + b + ", " + t + ")", x.thief(a, s, b, t), want);
    }

    private void check(DialTown x, String name) {
        int n = random.nextInt(20);
        int from = random.nextInt(5);
        int slot = random.nextInt(73 - n);
        int cell = random.nextInt(81);
        int[] ways = new int[from + n];
        for (int i = 0; i < ways.length; i++) {
            ways[i] = random.nextInt(60) == 0 ? random.nextInt(20) - 10 : random.nextInt(5);
        }
        Due.row(x, 0, ways);
        int wrong = 0;
        int been = isWalkable(cell) ? openNow(slot) & shopAt(cell) : 0;
        int at = cell;
        for (int k = 1; k <= n && wrong == 0; k++) {
            int to = beside(at, ways[from + k - 1]);
            wrong = to < 0 ? k : 0;
            at = to < 0 ? at : to;
            been |= to < 0 ? 0 : openNow(slot + k) & shopAt(at);
        }
        due.is(name + "check, 0", x.check(cell, slot, 0, from, n, 0), isWalkable(cell) ? wrong : Due.BAD);
        due.is(name + "check, 1", x.check(cell, slot, 0, from, n, 1), isWalkable(cell) ? been : Due.BAD);
    }
}
