import java.util.ArrayList;
import java.util.Arrays;
import java.util.BitSet;
import java.util.List;
import java.util.TreeSet;

/**
 * The whole face once more, told from the document in its plainest form: rows that are arrays or null, a town that
 * is copied whole, walkers who are everywhere at once. RunModelTest asks it and the class the same.
 */
final class PlainTown {
    private static final int NONE = -1000000, BAD = -1000001, STATE = -1000002, FULL = -1000003;
    private static final List<String> SORTS = Arrays.asList("dark", "sunny", "noon", "mass", "lamp");
    private static final int[] KIND = {1, 4, 2, 3, 5};
    private static final int[][] IS = {{0}, {1, 0}, {2, 1, 0}, {3, 2, 1, 0}, {4, 0}, {5, 4, 0}};

    /** The town as it stands, and as an image keeps it. */
    private static final class City {
        int x, y, reach, season = 1, east, north;
        final TreeSet<Integer> walls = new TreeSet<>();
        final TreeSet<Integer> clouds = new TreeSet<>();
        final List<int[]> shops = new ArrayList<>();

        City copied() {
            City other = new City();
            other.x = x;
            other.y = y;
            other.reach = reach;
            other.season = season;
            other.east = east;
            other.north = north;
            other.walls.addAll(walls);
            other.clouds.addAll(clouds);
            other.shops.addAll(shops);
            return other;
        }

        City in(int otherSeason, int otherEast, int otherNorth, boolean isCloudy) {
            City other = copied();
            other.season = otherSeason;
            other.east = otherEast;
            other.north = otherNorth;
            if (!isCloudy) {
                other.clouds.clear();
            }
            return other;
        }

        int at(int cell) {
            for (int shop = 0; shop < shops.size(); shop++) {
                if (shops.get(shop)[1] == cell) {
                    return shop;
                }
            }
            return -1;
        }

        boolean isBuilt(int cell) {
            return cell == x + 9 * y || walls.contains(cell);
        }

        boolean isTaken(int cell) {
            return isBuilt(cell) || at(cell) >= 0;
        }

        TreeSet<Integer> shadow(int slot) {
            TreeSet<Integer> cells = new TreeSet<>();
            cells.add(x + 9 * y);
            int tipEast = (slot - 36) * reach / 36 + east;
            int tipNorth = season + north;
            int steps = Math.max(Math.abs(tipEast), Math.abs(tipNorth));
            for (int k = 1; k <= steps; k++) {
                int toX = x + k * tipEast / steps;
                int toY = y - k * tipNorth / steps;
                boolean isInTown = toX >= 0 && toX <= 8 && toY >= 0 && toY <= 8;
                if (!isInTown || walls.contains(toX + 9 * toY)) {
                    return cells;
                }
                cells.add(toX + 9 * toY);
            }
            return cells;
        }

        boolean wouldBeOpen(int sort, int cell, int slot) {
            boolean dark = shadow(slot).contains(cell);
            boolean noon = dark && slot >= 30 && slot <= 42;
            boolean lamp = !dark && (slot < 12 || slot > 60);
            boolean[] bySort = {dark, !dark, noon, noon || slot == 36, lamp};
            return bySort[sort] && !clouds.contains(slot);
        }

        boolean isOpen(int shop, int slot) {
            return wouldBeOpen(shops.get(shop)[0], shops.get(shop)[1], slot);
        }

        int open(int slot) {
            int bits = 0;
            for (int shop = 0; shop < shops.size(); shop++) {
                bits += isOpen(shop, slot) ? 1 << shop : 0;
            }
            return bits;
        }

        int slots(int sort, int cell) {
            int slots = 0;
            for (int slot = 0; slot <= 72; slot++) {
                slots += wouldBeOpen(sort, cell, slot) ? 1 : 0;
            }
            return slots;
        }

        int beside(int cell, int way) {
            int toX = cell % 9 + (way == 1 ? 1 : 0) - (way == 3 ? 1 : 0);
            int toY = cell / 9 + (way == 2 ? 1 : 0) - (way == 0 ? 1 : 0);
            boolean can = way >= 0 && way <= 4 && toX >= 0 && toX <= 8 && toY >= 0 && toY <= 8;
            return can && !isBuilt(toX + 9 * toY) ? toX + 9 * toY : -1;
        }

        /** Of each cell the sets of shops with which somebody can be there, a slot later. */
        BitSet[] later(BitSet[] now, int slot) {
            BitSet[] next = new BitSet[81];
            for (int cell = 0; cell < 81; cell++) {
                BitSet sets = new BitSet();
                for (int way = 0; way <= 4 && !isBuilt(cell); way++) {
                    int from = beside(cell, way);
                    if (from >= 0) {
                        sets.or(now[from]);
                    }
                }
                next[cell] = visited(sets, cell, slot);
            }
            return next;
        }

        BitSet visited(BitSet sets, int cell, int slot) {
            int shop = at(cell);
            if (shop < 0 || sets.isEmpty() || !isOpen(shop, slot)) {
                return sets;
            }
            BitSet with = new BitSet();
            sets.stream().forEach(set -> with.set(set | 1 << shop));
            return with;
        }

        BitSet[] nowAt(int cell, int slot) {
            BitSet[] now = new BitSet[81];
            for (int i = 0; i < 81; i++) {
                now[i] = new BitSet();
            }
            now[cell].set(0);
            now[cell] = visited(now[cell], cell, slot);
            return now;
        }
    }

    private final int[] lanes = new int[8];
    private final int[][] rows = new int[8][];
    private final StringBuilder tape = new StringBuilder();
    private final City[] images = new City[2];
    private final List<Integer> trace = new ArrayList<>();
    private City city;
    private int fault;
    private int finding;

    private int find(int number) {
        finding = number;
        return -1000010 - number;
    }

    private int well(int answer) {
        finding = 0;
        return answer;
    }

    private static boolean not(int number, int least, int most) {
        return number < least || number > most;
    }

    /** How many shops there are, none without a town. */
    private int shops() {
        return city == null ? 0 : city.shops.size();
    }

    int row(int row, int lane, int n) {
        if (not(row, 0, 7) || not(lane, 0, 2) || n > 40) {
            return BAD;
        }
        if (n < 0) {
            return find(4);
        }
        lanes[row] = lane;
        rows[row] = new int[n];
        return well(n);
    }

    int set(int row, int i, int v) {
        if (not(row, 0, 7)) {
            return BAD;
        }
        if (rows[row] == null) {
            return find(1);
        }
        if (not(i, 0, rows[row].length - 1)) {
            return find(2);
        }
        int bits = 8 << lanes[row];
        rows[row][i] = v << 32 - bits >> 32 - bits;
        return well(rows[row][i]);
    }

    int copy(int a, int i, int b, int j, int n) {
        if (not(a, 0, 7) || not(b, 0, 7)) {
            return BAD;
        }
        if (rows[a] == null || rows[b] == null) {
            return find(1);
        }
        if (lanes[a] != lanes[b]) {
            return find(5);
        }
        boolean isThere = i >= 0 && j >= 0 && n >= 0 && (long) i + n <= rows[a].length && (long) j + n <= rows[b].length;
        if (!isThere) {
            return find(2);
        }
        int[] ahead = rows[a].clone();
        for (int k = 0; k < n; k++) {
            rows[b][j + k] = ahead[i + k];
        }
        return well(n);
    }

    int drop(int row) {
        if (not(row, 0, 7)) {
            return BAD;
        }
        if (rows[row] == null) {
            return find(1);
        }
        int had = rows[row].length;
        rows[row] = null;
        return well(had);
    }

    int feed(long w, int n) {
        if (not(n, 1, 8)) {
            return BAD;
        }
        if (tape.length() + n > 400) {
            return FULL;
        }
        for (int k = n - 1; k >= 0; k--) {
            tape.append((char) (w >> 8 * k & 0xff));
        }
        return tape.length();
    }

    int town() {
        String text = tape.toString();
        tape.setLength(0);
        City read = new City();
        int[] told = {0, 0};
        int end = tower(text, read, told);
        while (end >= 0 && told[0] == 0 && tokenAt(text, end) < text.length()) {
            end = part(text, end, read, told);
        }
        if (told[0] != 0) {
            fault = told[0];
            return -1000100 - told[1];
        }
        city = read;
        return read.shops.size();
    }

    /** Tells the fault and its place; the reading ends with -1. */
    private static int fails(int[] told, int number, int place) {
        told[0] = number;
        told[1] = place;
        return -1;
    }

    private static int tokenAt(String text, int from) {
        int at = from;
        while (at < text.length() && " \n".indexOf(text.charAt(at)) >= 0) {
            at++;
        }
        return at;
    }

    /** Where the token from here on ends. */
    private static int tokenEnd(String text, int at) {
        for (String sort : new String[] {"[a-z]+", "[0-9]+"}) {
            java.util.regex.Matcher run = java.util.regex.Pattern.compile(sort).matcher(text).region(at, text.length());
            if (run.lookingAt()) {
                return run.end();
            }
        }
        return Math.min(text.length(), at + 1);
    }

    /** Tells which of the words stands next, and where; where it is none of them that is a fault. */
    private static int word(String text, int from, int[] told, List<String> words, int[] which) {
        int at = tokenAt(text, from);
        int end = tokenEnd(text, at);
        which[0] = words.indexOf(text.substring(at, end));
        which[1] = at;
        return which[0] < 0 ? fails(told, 1, at) : end;
    }

    private static int number(String text, int from, int[] told, int least, int most, int[] into) {
        int at = tokenAt(text, from);
        int end = tokenEnd(text, at);
        String token = text.substring(at, end);
        if (!token.matches("[0-9]{1,3}")) {
            return fails(told, 1, at);
        }
        into[0] = Integer.parseInt(token);
        into[1] = at;
        return not(into[0], least, most) ? fails(told, 2, at) : end;
    }

    private static int tower(String text, City read, int[] told) {
        int[] into = new int[2];
        int end = word(text, 0, told, List.of("tower"), into);
        end = end < 0 ? end : number(text, end, told, 0, 8, into);
        read.x = into[0];
        end = end < 0 ? end : number(text, end, told, 0, 8, into);
        read.y = into[0];
        end = end < 0 ? end : number(text, end, told, 1, 8, into);
        read.reach = into[0];
        return end < 0 ? end : word(text, end, told, List.of(";"), into);
    }

    private static int part(String text, int from, City read, int[] told) {
        int[] into = new int[2];
        int end = word(text, from, told, read.shops.isEmpty() ? List.of("shop", "wall") : List.of("shop"), into);
        if (end < 0) {
            return end;
        }
        boolean isWall = into[0] == 1;
        int sort = 0;
        if (isWall ? wallsIn(text, from) == 20 : read.shops.size() == 8) {
            return fails(told, 3, into[1]);
        }
        if (!isWall) {
            end = word(text, end, told, SORTS, into);
            sort = into[0];
        }
        end = end < 0 ? end : number(text, end, told, 0, 8, into);
        int x = into[0];
        end = end < 0 ? end : number(text, end, told, 0, 8, into);
        int cell = x + 9 * into[0];
        if (end >= 0 && (isWall ? cell == read.x + 9 * read.y : read.isTaken(cell))) {
            return fails(told, 2, into[1]);
        }
        if (end >= 0 && isWall) {
            read.walls.add(cell);
        } else if (end >= 0) {
            end = number(text, end, told, 0, 99, into);
            read.shops.add(new int[] {sort, cell, into[0]});
        }
        return end < 0 ? end : word(text, end, told, List.of(";"), into);
    }

    /** How many walls a text without a fault tells ahead of a place. */
    private static int wallsIn(String text, int to) {
        return text.substring(0, to).split("wall", -1).length - 1;
    }

    int fault() {
        return fault;
    }

    int season(int s) {
        if (city == null) {
            return STATE;
        }
        if (not(s, 1, 6)) {
            return BAD;
        }
        int was = city.season;
        city.season = s;
        return was;
    }

    int lean(int east, int north) {
        if (city == null) {
            return STATE;
        }
        if (not(east, -3, 3) || not(north, -3, 3)) {
            return BAD;
        }
        city.east = east;
        city.north = north;
        return 1;
    }

    int cloud(int slot, int is) {
        if (city == null) {
            return STATE;
        }
        if (not(slot, 0, 72) || not(is, 0, 1)) {
            return BAD;
        }
        boolean was = is == 1 ? !city.clouds.add(slot) : city.clouds.remove(slot);
        return was ? 1 : 0;
    }

    int draw(int seed, int p) {
        if (city == null) {
            return STATE;
        }
        if (not(seed, 1, 999999) || not(p, 0, 100)) {
            return BAD;
        }
        city.clouds.clear();
        java.math.BigInteger x = java.math.BigInteger.valueOf(seed);
        for (int slot = 0; slot <= 72; slot++) {
            x = x.multiply(java.math.BigInteger.valueOf(16807)).mod(java.math.BigInteger.valueOf(2147483647));
            if (x.intValue() % 100 < p) {
                city.clouds.add(slot);
            }
        }
        return city.clouds.size();
    }

    int more(int sort, int cell, int rent) {
        if (city == null) {
            return STATE;
        }
        if (not(sort, 0, 4) || not(cell, 0, 80) || not(rent, 0, 99) || city.isTaken(cell)) {
            return BAD;
        }
        if (city.shops.size() == 8) {
            return FULL;
        }
        city.shops.add(new int[] {sort, cell, rent});
        return city.shops.size() - 1;
    }

    int undo() {
        if (shops() == 0) {
            return STATE;
        }
        city.shops.remove(city.shops.size() - 1);
        return city.shops.size();
    }

    int shadow(int slot, int cell) {
        if (city == null) {
            return STATE;
        }
        if (not(slot, 0, 72) || not(cell, 0, 80)) {
            return BAD;
        }
        return city.shadow(slot).contains(cell) ? 1 : 0;
    }

    int open(int slot) {
        return city == null ? STATE : not(slot, 0, 72) ? BAD : city.open(slot);
    }

    int shop(int shop, int what) {
        if (not(shop, 0, shops() - 1) || not(what, 0, 4)) {
            return BAD;
        }
        int[] of = city.shops.get(shop);
        int day = city.slots(of[0], of[1]);
        int year = 0;
        for (int s = 1; s <= 6; s++) {
            year += city.in(s, city.east, city.north, false).slots(of[0], of[1]);
        }
        return new int[] {of[1], of[2], day, of[2] * day, of[2] * year}[what];
    }

    int soonest(int cell, int slot, int shops) {
        if (city == null) {
            return STATE;
        }
        if (not(cell, 0, 80) || not(slot, 0, 72) || not(shops, 0, (1 << shops()) - 1)) {
            return BAD;
        }
        if (city.isBuilt(cell)) {
            return NONE;
        }
        BitSet[] now = city.nowAt(cell, slot);
        for (int at = slot; at <= 72; at++) {
            now = at == slot ? now : city.later(now, at);
            for (BitSet sets : now) {
                if (sets.stream().anyMatch(set -> (set & shops) == shops)) {
                    return at - slot;
                }
            }
        }
        return NONE;
    }

    int check(int cell, int slot, int row, int i, int n, int what) {
        if (city == null) {
            return STATE;
        }
        if (not(cell, 0, 80) || city.isBuilt(cell) || not(slot, 0, 72) || not(n, 0, 40) || slot + n > 72) {
            return BAD;
        }
        if (not(row, 0, 7) || not(what, 0, 1)) {
            return BAD;
        }
        if (rows[row] == null) {
            return find(1);
        }
        if (i < 0 || (long) i + n > rows[row].length) {
            return find(2);
        }
        BitSet been = new BitSet();
        int at = cell;
        for (int k = 0; k <= n; k++) {
            int to = k == 0 ? at : city.beside(at, rows[row][i + k - 1]);
            if (to < 0) {
                return well(what == 0 ? k : bits(been));
            }
            at = to;
            if (city.at(at) >= 0 && city.isOpen(city.at(at), slot + k)) {
                been.set(city.at(at));
            }
        }
        return well(what == 0 ? 0 : bits(been));
    }

    private static int bits(BitSet set) {
        return set.isEmpty() ? 0 : (int) set.toLongArray()[0];
    }

    int thief(int a, int s, int b, int t) {
        if (city == null) {
            return STATE;
        }
        if (not(a, 0, 80) || not(b, 0, 80) || not(s, 0, 72) || not(t, s, 72)) {
            return BAD;
        }
        if (city.isBuilt(a) || city.isBuilt(b)) {
            return NONE;
        }
        BitSet[] now = city.nowAt(a, s);
        for (int at = s + 1; at <= t; at++) {
            now = city.later(now, at);
        }
        return now[b].isEmpty() ? NONE : now[b].stream().reduce(0, (one, other) -> one | other);
    }

    int longest(int sort, int what) {
        if (city == null) {
            return STATE;
        }
        if (not(sort, 0, 4) || not(what, 0, 1)) {
            return BAD;
        }
        int most = -1;
        int best = NONE;
        for (int cell = 0; cell <= 80; cell++) {
            int slots = city.isTaken(cell) ? -1 : city.slots(sort, cell);
            best = slots > most ? cell : best;
            most = Math.max(slots, most);
        }
        return what == 0 || best == NONE ? best : most;
    }

    int bills(int slot, int shops) {
        if (city == null) {
            return STATE;
        }
        if (not(slot, 0, 72) || not(shops, 0, (1 << shops()) - 1)) {
            return BAD;
        }
        int fit = 0;
        for (int s = 1; s <= 6; s++) {
            fit += city.in(s, city.east, city.north, false).open(slot) == shops ? 1 << s : 0;
        }
        return fit;
    }

    int leans(int shop, int east, int north) {
        if (not(shop, 0, shops() - 1) || not(east, -3, 3) || not(north, -3, 3)) {
            return BAD;
        }
        int[] of = city.shops.get(shop);
        return city.in(city.season, east, north, true).slots(of[0], of[1]) - city.slots(of[0], of[1]);
    }

    int image(int k) {
        if (not(k, 0, 1)) {
            return BAD;
        }
        if (city == null) {
            return STATE;
        }
        images[k] = city.copied();
        return 1;
    }

    int restore(int k) {
        if (not(k, 0, 1)) {
            return BAD;
        }
        if (images[k] == null) {
            return STATE;
        }
        city = images[k].copied();
        return 1;
    }

    int kind(int shop) {
        return not(shop, 0, shops() - 1) ? BAD : KIND[city.shops.get(shop)[0]];
    }

    int as(int shop, int kind) {
        if (not(shop, 0, shops() - 1) || not(kind, 0, 5)) {
            return BAD;
        }
        for (int is : IS[kind(shop)]) {
            if (is == kind) {
                return well(shop);
            }
        }
        return find(3);
    }

    int ask(int shop, int what) {
        if (not(shop, 0, shops() - 1) || not(what, 0, 1)) {
            return BAD;
        }
        trace.clear();
        return what == 0 ? size(shop, kind(shop)) : mark(shop, kind(shop));
    }

    /** As a shop of a kind (its own, or one that it is) answers the ask for its SIZE. */
    private int size(int shop, int kind) {
        switch (kind) {
            case 0: trace.add(10); return city.shops.get(shop)[2];
            case 1: trace.add(11); return size(shop, 0) + mark(shop, kind(shop));
            case 2: return size(shop, 1);
            case 3: trace.add(12); return -size(shop, 2);
            case 4: trace.add(13); return size(shop, 0) - 100;
            default: trace.add(14); return 2 * size(shop, 4);
        }
    }

    private int mark(int shop, int kind) {
        switch (kind) {
            case 0: trace.add(20); return shop;
            case 1: trace.add(21); return mark(shop, 0) + city.shops.get(shop)[1];
            case 2: trace.add(22); return mark(shop, 1) - 1000;
            case 3: trace.add(24); return 2 * mark(shop, 2);
            case 4: trace.add(23); return mark(shop, 0) - size(shop, kind(shop));
            default: return mark(shop, 4);
        }
    }

    int trace(int i) {
        return not(i, 0, Math.min(16, trace.size()) - 1) ? NONE : trace.get(i);
    }

    int count(int what) {
        int there = 0;
        for (int[] row : rows) {
            there += row == null ? 0 : 1;
        }
        switch (what) {
            case 0: return there;
            case 1: return shops();
            case 2: return city == null ? 0 : city.walls.size();
            case 3: return city == null ? 0 : city.clouds.size();
            case 4: return city == null ? 0 : city.season;
            case 5: return tape.length();
            default: return BAD;
        }
    }

    int status() {
        return finding;
    }

    boolean isFree(int cell) {
        return city != null && !not(cell, 0, 80) && !city.isTaken(cell);
    }
}
