import java.util.Arrays;

/**
 * A town of nine by nine cells about a tower that throws a shadow: shops that open by it,
 * walkers who are errand runners or thieves, and rows that tell their ways.
 */
public final class DialTown {
    public static final int NONE = -1000000, BAD = -1000001, STATE = -1000002, FULL = -1000003;

    private static final int FINDINGS = -1000010;
    private static final int NULL = 1, PLACE = 2, KIND = 3, SIZE = 4, STORE = 5;
    private static final int FAULTS = -1000100;

    private static final int SIDE = 9, CELLS = 81;
    private static final int LAST_SLOT = 72, SLOTS = 73, NOON_SLOT = 36;
    private static final int LAST_SEASON = 6, MOST_LEAN = 3;
    private static final int MOST_SHOPS = 8, MOST_RENT = 99;
    private static final int SORTS = 5, KINDS = 6, IMAGES = 2;

    private final Rows rows = new Rows();
    private final Tape tape = new Tape();
    private final Town here = new Town();
    /** A town that is only tried: one that is read, or this one with other weather, season or lean. */
    private final Town tried = new Town();
    private final Town[] images = {new Town(), new Town()};
    private final Reader reader = new Reader(tape, tried);
    private final Dial dial = new Dial();
    private final Walker walker = new Walker();
    private final Asker asker = new Asker();
    private int latestFault = 0;
    private int latestFinding = 0;

    public DialTown() {
    }

    // ---- rows

    public int row(int row, int lane, int n) {
        if (!Rows.isRow(row) || lane < 0 || lane >= Rows.LANES || n > Rows.MOST_ITEMS) {
            return BAD;
        }
        if (n < 0) {
            return found(SIZE);
        }
        rows.lay(row, lane, n);
        return fine(n);
    }

    public int set(int row, int i, int v) {
        if (!Rows.isRow(row)) {
            return BAD;
        }
        if (rows.isMissing(row)) {
            return found(NULL);
        }
        if (!rows.hasItems(row, i, 1)) {
            return found(PLACE);
        }
        return fine(rows.put(row, i, v));
    }

    public int copy(int a, int i, int b, int j, int n) {
        if (!Rows.isRow(a) || !Rows.isRow(b)) {
            return BAD;
        }
        if (rows.isMissing(a) || rows.isMissing(b)) {
            return found(NULL);
        }
        if (!rows.haveOneLane(a, b)) {
            return found(STORE);
        }
        if (!rows.hasItems(a, i, n) || !rows.hasItems(b, j, n)) {
            return found(PLACE);
        }
        rows.move(a, i, b, j, n);
        return fine(n);
    }

    public int drop(int row) {
        if (!Rows.isRow(row)) {
            return BAD;
        }
        if (rows.isMissing(row)) {
            return found(NULL);
        }
        return fine(rows.remove(row));
    }

    // ---- towns

    public int feed(long w, int n) {
        if (n < 1 || n > Tape.MOST_FED) {
            return BAD;
        }
        return tape.hasRoomFor(n) ? tape.append(w, n) : FULL;
    }

    public int town() {
        boolean isRead = reader.readsAll();
        tape.clear();
        if (!isRead) {
            latestFault = reader.faultNumber;
            return FAULTS - reader.faultPlace;
        }
        here.become(tried);
        return here.shops;
    }

    public int fault() {
        return latestFault;
    }

    public int season(int s) {
        if (!here.stands) {
            return STATE;
        }
        if (s < 1 || s > LAST_SEASON) {
            return BAD;
        }
        int before = here.season;
        here.season = s;
        return before;
    }

    public int lean(int east, int north) {
        if (!here.stands) {
            return STATE;
        }
        if (!isLean(east) || !isLean(north)) {
            return BAD;
        }
        here.leanTo(east, north);
        return 1;
    }

    public int cloud(int slot, int is) {
        if (!here.stands) {
            return STATE;
        }
        if (!isSlot(slot) || is < 0 || is > 1) {
            return BAD;
        }
        int before = here.clouds[slot];
        here.clouds[slot] = is;
        return before;
    }

    public int draw(int seed, int p) {
        if (!here.stands) {
            return STATE;
        }
        if (seed < 1 || seed > 999999 || p < 0 || p > 100) {
            return BAD;
        }
        here.drawClouds(seed, p);
        return here.cloudy();
    }

    public int more(int sort, int cell, int rent) {
        if (!here.stands) {
            return STATE;
        }
        if (!isSort(sort) || !isCell(cell) || rent < 0 || rent > MOST_RENT || !here.isFree(cell)) {
            return BAD;
        }
        if (here.shops >= MOST_SHOPS) {
            return FULL;
        }
        here.addShop(sort, cell, rent);
        return here.shops - 1;
    }

    public int undo() {
        if (here.shops < 1) {
            return STATE;
        }
        here.removeShop();
        return here.shops;
    }

    public int shadow(int slot, int cell) {
        if (!here.stands) {
            return STATE;
        }
        if (!isSlot(slot) || !isCell(cell)) {
            return BAD;
        }
        dial.throwShadow(here, slot);
        return dial.isInShadow(cell) ? 1 : 0;
    }

    public int open(int slot) {
        if (!here.stands) {
            return STATE;
        }
        return isSlot(slot) ? dial.openShops(here, slot) : BAD;
    }

    public int shop(int shop, int what) {
        if (!here.hasShop(shop)) {
            return BAD;
        }
        switch (what) {
            case 0: return here.cells[shop];
            case 1: return here.rents[shop];
            case 2: return dial.openSlots(here, shop);
            case 3: return here.rents[shop] * dial.openSlots(here, shop);
            case 4: return here.rents[shop] * openSlotsOfYear(shop);
            default: return BAD;
        }
    }

    // ---- walkers

    public int soonest(int cell, int slot, int shops) {
        if (!here.stands) {
            return STATE;
        }
        if (!isCell(cell) || !isSlot(slot) || !here.hasShops(shops)) {
            return BAD;
        }
        if (!here.isWalkable(cell)) {
            return NONE;
        }
        dial.tellDay(here);
        int arrival = walker.endOfErrands(here, dial.day, cell, slot, shops);
        return arrival > LAST_SLOT ? NONE : arrival - slot;
    }

    public int check(int cell, int slot, int row, int i, int n, int what) {
        if (!here.stands) {
            return STATE;
        }
        if (!isCell(cell) || !here.isWalkable(cell) || !isSlot(slot) || what < 0 || what > 1) {
            return BAD;
        }
        if (!Rows.isRow(row) || n < 0 || n > Rows.MOST_ITEMS || slot + n > LAST_SLOT) {
            return BAD;
        }
        if (rows.isMissing(row)) {
            return found(NULL);
        }
        if (!rows.hasItems(row, i, n)) {
            return found(PLACE);
        }
        walker.start(here, dial, cell, slot);
        int wrongStep = 0;
        for (int step = 1; step <= n && wrongStep == 0; step++) {
            wrongStep = walker.goes(here, dial, rows.item(row, i + step - 1)) ? 0 : step;
        }
        return fine(what == 0 ? wrongStep : walker.visited);
    }

    public int thief(int a, int s, int b, int t) {
        if (!here.stands) {
            return STATE;
        }
        if (!isCell(a) || !isSlot(s) || !isCell(b) || !isSlot(t) || t < s) {
            return BAD;
        }
        if (!here.isWalkable(a) || !here.isWalkable(b)) {
            return NONE;
        }
        dial.tellDay(here);
        return walker.shopsBetween(here, dial.day, a, s, b, t);
    }

    public int longest(int sort, int what) {
        if (!here.stands) {
            return STATE;
        }
        if (!isSort(sort) || what < 0 || what > 1) {
            return BAD;
        }
        int best = dial.bestCell(here, sort);
        if (!isCell(best)) {
            return NONE;
        }
        return what == 0 ? best : dial.hours[best];
    }

    public int bills(int slot, int shops) {
        if (!here.stands) {
            return STATE;
        }
        if (!isSlot(slot) || !here.hasShops(shops)) {
            return BAD;
        }
        int fitting = 0;
        tried.become(here);
        tried.clearClouds();
        for (int s = 1; s <= LAST_SEASON; s++) {
            tried.season = s;
            if (dial.openShops(tried, slot) == shops) {
                fitting |= 1 << s;
            }
        }
        return fitting;
    }

    public int leans(int shop, int east, int north) {
        if (!here.hasShop(shop) || !isLean(east) || !isLean(north)) {
            return BAD;
        }
        tried.become(here);
        tried.leanTo(east, north);
        return dial.openSlots(tried, shop) - dial.openSlots(here, shop);
    }

    public int image(int k) {
        if (k < 0 || k >= IMAGES) {
            return BAD;
        }
        if (!here.stands) {
            return STATE;
        }
        images[k].become(here);
        return 1;
    }

    public int restore(int k) {
        if (k < 0 || k >= IMAGES) {
            return BAD;
        }
        if (!images[k].stands) {
            return STATE;
        }
        here.become(images[k]);
        return 1;
    }

    // ---- asked

    public int kind(int shop) {
        return here.hasShop(shop) ? here.kindOf(shop) : BAD;
    }

    public int as(int shop, int kind) {
        if (!here.hasShop(shop) || kind < 0 || kind >= KINDS) {
            return BAD;
        }
        return Asker.isOfKind(here.kindOf(shop), kind) ? fine(shop) : found(KIND);
    }

    public int ask(int shop, int what) {
        if (!here.hasShop(shop) || what < 0 || what > 1) {
            return BAD;
        }
        return asker.answer(here, shop, what);
    }

    public int trace(int i) {
        return i >= 0 && i < asker.traced ? asker.trail[i] : NONE;
    }

    public int count(int what) {
        switch (what) {
            case 0: return rows.present();
            case 1: return here.shops;
            case 2: return here.walls;
            case 3: return here.cloudy();
            case 4: return here.season;
            case 5: return tape.length;
            default: return BAD;
        }
    }

    public int status() {
        return latestFinding;
    }

    private int found(int finding) {
        latestFinding = finding;
        return FINDINGS - finding;
    }

    private int fine(int answer) {
        latestFinding = 0;
        return answer;
    }

    private int openSlotsOfYear(int shop) {
        int slots = 0;
        tried.become(here);
        tried.clearClouds();
        for (int s = 1; s <= LAST_SEASON; s++) {
            tried.season = s;
            slots += dial.openSlots(tried, shop);
        }
        return slots;
    }

    private static boolean isSlot(int slot) {
        return slot >= 0 && slot <= LAST_SLOT;
    }

    private static boolean isCell(int cell) {
        return cell >= 0 && cell < CELLS;
    }

    private static boolean isSort(int sort) {
        return sort >= 0 && sort < SORTS;
    }

    private static boolean isLean(int way) {
        return way >= -MOST_LEAN && way <= MOST_LEAN;
    }

    /** The cell of a place, NONE where the town has ended. */
    private static int cellAt(int x, int y) {
        return x >= 0 && x < SIDE && y >= 0 && y < SIDE ? x + SIDE * y : NONE;
    }

    /** The rows: all are made at once, since a run may lay them anew in every call. */
    private static final class Rows {
        static final int MOST_ROWS = 8, MOST_ITEMS = 40, LANES = 3;
        private static final int MISSING = -1, OF_BYTES = 0, OF_SHORTS = 1;

        private final int[] lanes = {MISSING, MISSING, MISSING, MISSING, MISSING, MISSING, MISSING, MISSING};
        private final int[] lengths = new int[MOST_ROWS];
        private final int[][] items = new int[MOST_ROWS][MOST_ITEMS];

        static boolean isRow(int row) {
            return row >= 0 && row < MOST_ROWS;
        }

        boolean isMissing(int row) {
            return lanes[row] == MISSING;
        }

        boolean haveOneLane(int a, int b) {
            return lanes[a] == lanes[b];
        }

        /** Whether n items from i on are there; written as a difference, since i and n may be any numbers. */
        boolean hasItems(int row, int i, int n) {
            return i >= 0 && n >= 0 && n <= lengths[row] - i;
        }

        void lay(int row, int lane, int n) {
            lanes[row] = lane;
            lengths[row] = n;
            Arrays.fill(items[row], 0);
        }

        int remove(int row) {
            lanes[row] = MISSING;
            return lengths[row];
        }

        int put(int row, int i, int v) {
            items[row][i] = lanes[row] == OF_BYTES ? (byte) v : lanes[row] == OF_SHORTS ? (short) v : v;
            return items[row][i];
        }

        int item(int row, int i) {
            return items[row][i];
        }

        void move(int a, int i, int b, int j, int n) {
            System.arraycopy(items[a], i, items[b], j, n);
        }

        int present() {
            int present = 0;
            for (int lane : lanes) {
                present += lane == MISSING ? 0 : 1;
            }
            return present;
        }
    }

    /** The tape, and the runs of like bytes on it. */
    private static final class Tape {
        static final int MOST_FED = 8;
        private static final int MOST_BYTES = 400, END = -1;

        private final int[] bytes = new int[MOST_BYTES];
        private int length = 0;

        boolean hasRoomFor(int n) {
            return n <= MOST_BYTES - length;
        }

        int append(long w, int n) {
            for (int left = n - 1; left >= 0 && length < MOST_BYTES; left--) {
                bytes[length] = (int) (w >>> 8 * left) & 255;
                length++;
            }
            return length;
        }

        void clear() {
            length = 0;
        }

        int byteAt(int place) {
            return place >= 0 && place < length ? bytes[place] : END;
        }

        int endOfBlanks(int from) {
            int place = from;
            while (place < length && (bytes[place] == ' ' || bytes[place] == '\n')) {
                place++;
            }
            return place;
        }

        /** The place of the first byte from a place on that is not one of these. */
        int endOfRun(int from, int least, int most) {
            int place = from;
            while (place < length && bytes[place] >= least && bytes[place] <= most) {
                place++;
            }
            return place;
        }

        int numberIn(int from, int to) {
            int told = 0;
            for (int place = from; place < to && place < length; place++) {
                told = 10 * told + bytes[place] - '0';
            }
            return told;
        }

        boolean hasWord(String word, int from, int to) {
            if (to - from != word.length()) {
                return false;
            }
            for (int i = 0; i < word.length(); i++) {
                if (byteAt(from + i) != word.charAt(i)) {
                    return false;
                }
            }
            return true;
        }
    }

    /** Reads the text of a town, token by token, up to the first fault. */
    private static final class Reader {
        private static final int END = 0, NAME = 1, NUMBER = 2, SIGN = 3, NO_TOKEN = 4;
        private static final int MISPLACED = 1, WRONG_NUMBER = 2, TOO_MANY = 3;
        private static final int MOST_FIGURES = 3, MOST_WALLS = 20, MOST_REACH = 8;

        private final Tape tape;
        private final Town town;
        private int next = 0;
        private int token = END;
        private int from = 0;
        private int number = 0;
        private int wallsTold = 0;
        private int faultNumber = 0;
        private int faultPlace = 0;

        Reader(Tape told, Town read) {
            tape = told;
            town = read;
        }

        boolean readsAll() {
            next = 0;
            wallsTold = 0;
            town.clear();
            boolean isFine = readsTower();
            for (int parts = 0; isFine && parts <= MOST_WALLS + MOST_SHOPS; parts++) {
                takeToken();
                if (token == END) {
                    return true;
                }
                if (isWord("wall") && town.shops == 0) {
                    isFine = readsWall();
                } else {
                    isFine = isWord("shop") ? readsShop() : fails(MISPLACED);
                }
            }
            return false;
        }

        private boolean readsTower() {
            takeToken();
            if (!isWord("tower")) {
                return fails(MISPLACED);
            }
            if (!readsNumber(0, SIDE - 1)) {
                return false;
            }
            int x = number;
            if (!readsNumber(0, SIDE - 1)) {
                return false;
            }
            int y = number;
            if (!readsNumber(1, MOST_REACH)) {
                return false;
            }
            town.raiseTower(x, y, number);
            return readsSign();
        }

        private boolean readsWall() {
            if (wallsTold >= MOST_WALLS) {
                return fails(TOO_MANY);
            }
            wallsTold++;
            int cell = readCell();
            if (cell == NONE) {
                return false;
            }
            if (town.isTower(cell)) {
                return fails(WRONG_NUMBER);
            }
            town.addWall(cell);
            return readsSign();
        }

        private boolean readsShop() {
            if (town.shops >= MOST_SHOPS) {
                return fails(TOO_MANY);
            }
            takeToken();
            int sort = sortTold();
            if (!isSort(sort)) {
                return fails(MISPLACED);
            }
            int cell = readCell();
            if (cell == NONE) {
                return false;
            }
            if (!town.isFree(cell)) {
                return fails(WRONG_NUMBER);
            }
            if (!readsNumber(0, MOST_RENT)) {
                return false;
            }
            town.addShop(sort, cell, number);
            return readsSign();
        }

        private int sortTold() {
            if (isWord("dark")) {
                return Town.DARK;
            }
            if (isWord("sunny")) {
                return Town.SUNNY;
            }
            if (isWord("noon")) {
                return Town.NOON;
            }
            if (isWord("mass")) {
                return Town.MASS;
            }
            return isWord("lamp") ? Town.LAMP : NONE;
        }

        /** A cell by x and y, whose y is the latest token then; NONE where one of both had a fault. */
        private int readCell() {
            if (!readsNumber(0, SIDE - 1)) {
                return NONE;
            }
            int x = number;
            return readsNumber(0, SIDE - 1) ? cellAt(x, number) : NONE;
        }

        private boolean readsNumber(int least, int most) {
            takeToken();
            if (token != NUMBER) {
                return fails(MISPLACED);
            }
            return number >= least && number <= most || fails(WRONG_NUMBER);
        }

        private boolean readsSign() {
            takeToken();
            return token == SIGN || fails(MISPLACED);
        }

        private boolean isWord(String word) {
            return token == NAME && tape.hasWord(word, from, next);
        }

        private boolean fails(int fault) {
            faultNumber = fault;
            faultPlace = from;
            return false;
        }

        private void takeToken() {
            from = tape.endOfBlanks(next);
            int first = tape.byteAt(from);
            if (first == Tape.END) {
                token = END;
            } else if (first >= 'a' && first <= 'z') {
                next = tape.endOfRun(from, 'a', 'z');
                token = NAME;
            } else if (first >= '0' && first <= '9') {
                next = tape.endOfRun(from, '0', '9');
                token = next - from > MOST_FIGURES ? NO_TOKEN : NUMBER;
                number = token == NUMBER ? tape.numberIn(from, next) : 0;
            } else {
                next = from + 1;
                token = first == ';' ? SIGN : NO_TOKEN;
            }
        }
    }

    /** All that an image keeps. */
    private static final class Town {
        static final int DARK = 0, SUNNY = 1, NOON = 2, MASS = 3, LAMP = 4;
        private static final int FREE = 0, TOWER = 1, WALL = 2, SHOP = 3;
        private static final int[] KIND_OF_SORT = {1, 4, 2, 3, 5};

        private boolean stands = false;
        private int towerX = 0;
        private int towerY = 0;
        private int reach = 0;
        private int season = 0;
        private int leanEast = 0;
        private int leanNorth = 0;
        private int walls = 0;
        private int shops = 0;
        private final int[] ground = new int[CELLS];
        private final int[] clouds = new int[SLOTS];
        private final int[] sorts = new int[MOST_SHOPS];
        private final int[] cells = new int[MOST_SHOPS];
        private final int[] rents = new int[MOST_SHOPS];

        void clear() {
            stands = false;
            season = 0;
            leanTo(0, 0);
            walls = 0;
            shops = 0;
            Arrays.fill(ground, FREE);
            clearClouds();
        }

        void become(Town other) {
            stands = other.stands;
            towerX = other.towerX;
            towerY = other.towerY;
            reach = other.reach;
            season = other.season;
            leanEast = other.leanEast;
            leanNorth = other.leanNorth;
            walls = other.walls;
            shops = other.shops;
            System.arraycopy(other.ground, 0, ground, 0, CELLS);
            System.arraycopy(other.clouds, 0, clouds, 0, SLOTS);
            System.arraycopy(other.sorts, 0, sorts, 0, MOST_SHOPS);
            System.arraycopy(other.cells, 0, cells, 0, MOST_SHOPS);
            System.arraycopy(other.rents, 0, rents, 0, MOST_SHOPS);
        }

        /** The town stands from its tower on. */
        void raiseTower(int x, int y, int shadowReach) {
            int cell = cellAt(x, y);
            if (cell == NONE) {
                return;
            }
            stands = true;
            towerX = x;
            towerY = y;
            reach = shadowReach;
            season = 1;
            ground[cell] = TOWER;
        }

        void addWall(int cell) {
            walls += ground[cell] == WALL ? 0 : 1;
            ground[cell] = WALL;
        }

        void addShop(int sort, int cell, int rent) {
            if (shops >= MOST_SHOPS) {
                return;
            }
            sorts[shops] = sort;
            cells[shops] = cell;
            rents[shops] = rent;
            ground[cell] = SHOP;
            shops++;
        }

        void removeShop() {
            if (shops > 0) {
                shops--;
                ground[cells[shops]] = FREE;
            }
        }

        void leanTo(int east, int north) {
            leanEast = east;
            leanNorth = north;
        }

        void clearClouds() {
            Arrays.fill(clouds, 0);
        }

        void drawClouds(int seed, int percent) {
            long x = seed;
            for (int slot = 0; slot < SLOTS; slot++) {
                x = x * 16807 % 2147483647;
                clouds[slot] = x % 100 < percent ? 1 : 0;
            }
        }

        int cloudy() {
            int cloudy = 0;
            for (int is : clouds) {
                cloudy += is;
            }
            return cloudy;
        }

        boolean isFree(int cell) {
            return ground[cell] == FREE;
        }

        boolean isTower(int cell) {
            return ground[cell] == TOWER;
        }

        boolean isWall(int cell) {
            return ground[cell] == WALL;
        }

        boolean isWalkable(int cell) {
            return !isTower(cell) && !isWall(cell);
        }

        boolean hasShop(int shop) {
            return shop >= 0 && shop < shops;
        }

        boolean hasShops(int bits) {
            return bits >= 0 && bits < 1 << shops;
        }

        /** The shop in a cell as a bit, 0 where there is none. */
        int shopIn(int cell) {
            int bit = 0;
            for (int shop = 0; shop < shops; shop++) {
                bit |= cells[shop] == cell ? 1 << shop : 0;
            }
            return bit;
        }

        int kindOf(int shop) {
            return KIND_OF_SORT[sorts[shop]];
        }
    }

    /** The shadow of a tower, and what is open by it. */
    private static final class Dial {
        private final int[] shaded = new int[SIDE];
        private int length = 0;
        /** For each slot of the day that was told last, the shops that are open in it. */
        private final int[] day = new int[SLOTS];
        /** For each cell, in how many slots a shop of the sort that was asked last would be open. */
        private final int[] hours = new int[CELLS];

        /** The longer of both ways goes on by one cell a step, so nine cells hold every shadow in the town. */
        void throwShadow(Town town, int slot) {
            int east = (slot - NOON_SLOT) * town.reach / 36 + town.leanEast;
            int north = town.season + town.leanNorth;
            int steps = Math.max(Math.abs(east), Math.abs(north));
            shaded[0] = cellAt(town.towerX, town.towerY);
            length = 1;
            for (int k = 1; k <= steps && length < SIDE; k++) {
                int cell = cellAt(town.towerX + k * east / steps, town.towerY - k * north / steps);
                if (cell == NONE || town.isWall(cell)) {
                    return;
                }
                shaded[length] = cell;
                length++;
            }
        }

        boolean isInShadow(int cell) {
            for (int i = 0; i < length; i++) {
                if (shaded[i] == cell) {
                    return true;
                }
            }
            return false;
        }

        int openShops(Town town, int slot) {
            if (town.clouds[slot] == 1) {
                return 0;
            }
            throwShadow(town, slot);
            int open = 0;
            for (int shop = 0; shop < town.shops; shop++) {
                open |= isOpen(town.sorts[shop], town.cells[shop], slot) ? 1 << shop : 0;
            }
            return open;
        }

        int openSlots(Town town, int shop) {
            int slots = 0;
            for (int slot = 0; slot < SLOTS; slot++) {
                slots += openShops(town, slot) >> shop & 1;
            }
            return slots;
        }

        void tellDay(Town town) {
            for (int slot = 0; slot < SLOTS; slot++) {
                day[slot] = openShops(town, slot);
            }
        }

        /** The free cell that would be open longest, NONE where none is free. */
        int bestCell(Town town, int sort) {
            countHours(town, sort);
            int best = NONE;
            int most = -1;
            for (int cell = 0; cell < CELLS; cell++) {
                if (town.isFree(cell) && hours[cell] > most) {
                    best = cell;
                    most = hours[cell];
                }
            }
            return best;
        }

        private void countHours(Town town, int sort) {
            Arrays.fill(hours, 0);
            for (int slot = 0; slot < SLOTS; slot++) {
                if (town.clouds[slot] == 1) {
                    continue;
                }
                throwShadow(town, slot);
                for (int cell = 0; cell < CELLS; cell++) {
                    hours[cell] += isOpen(sort, cell, slot) ? 1 : 0;
                }
            }
        }

        /** By the shadow that was thrown last, which is this slot's. */
        private boolean isOpen(int sort, int cell, int slot) {
            boolean isDark = isInShadow(cell);
            boolean isAboutNoon = slot >= 30 && slot <= 42;
            switch (sort) {
                case Town.DARK: return isDark;
                case Town.SUNNY: return !isDark;
                case Town.NOON: return isDark && isAboutNoon;
                case Town.MASS: return isDark && isAboutNoon || slot == NOON_SLOT;
                default: return !isDark && (slot < 12 || slot > 60);
            }
        }
    }

    /** One who goes about the town: what is near, and where he comes in time. */
    private static final class Walker {
        private static final int[] EAST = {0, 1, 0, -1, 0}, SOUTH = {-1, 0, 1, 0, 0};
        /** Later than any slot, also when a way is added to it. */
        private static final int NEVER = 1000;

        private final int[] queue = new int[CELLS];
        /** For each shop (of a thief: for the first and the last cell), how far each cell is. */
        private final int[][] far = new int[MOST_SHOPS][CELLS];
        /** For each shop and slot, the slot from it on in which the shop is open next. */
        private final int[][] opening = new int[MOST_SHOPS][SLOTS];
        /** For each set of shops, and in it for the last of them, the slot in which all have been visited. */
        private final int[] visitedBy = new int[MOST_SHOPS << MOST_SHOPS];
        private int cell = 0;
        private int slot = 0;
        private int visited = 0;

        void start(Town town, Dial dial, int firstCell, int firstSlot) {
            cell = firstCell;
            slot = firstSlot;
            visited = dial.openShops(town, slot) & town.shopIn(cell);
        }

        boolean goes(Town town, Dial dial, int way) {
            int to = cellBeside(town, cell, way);
            if (to == NONE || slot >= LAST_SLOT) {
                return false;
            }
            cell = to;
            slot++;
            visited |= dial.openShops(town, slot) & town.shopIn(cell);
            return true;
        }

        int shopsBetween(Town town, int[] day, int a, int s, int b, int t) {
            measure(town, a, far[0]);
            measure(town, b, far[1]);
            if (far[0][b] > t - s) {
                return NONE;
            }
            int shops = 0;
            for (int shop = 0; shop < town.shops; shop++) {
                int at = town.cells[shop];
                for (int u = s + far[0][at]; u <= t - far[1][at]; u++) {
                    shops |= day[u] & 1 << shop;
                }
            }
            return shops;
        }

        /**
         * The slot in which all the shops have been visited; beyond the last one: never. He may
         * wait anywhere, so to be sooner is never worse, and the soonest end of each set will do.
         */
        int endOfErrands(Town town, int[] day, int from, int first, int shops) {
            if (shops == 0) {
                return first;
            }
            for (int shop = 0; shop < town.shops; shop++) {
                measure(town, town.cells[shop], far[shop]);
                tellOpenings(day, shop);
            }
            int end = NEVER;
            for (int set = 1; set <= shops; set++) {
                if ((set | shops) != shops) {
                    continue;
                }
                for (int last = 0; last < town.shops; last++) {
                    int visit = (set >> last & 1) == 1 ? endOfSet(town, set, last, from, first) : NEVER;
                    visitedBy[set * MOST_SHOPS + last] = visit;
                    end = set == shops ? Math.min(end, visit) : end;
                }
            }
            return end;
        }

        private int endOfSet(Town town, int set, int last, int from, int first) {
            int before = set ^ 1 << last;
            if (before == 0) {
                return openingFrom(last, first + far[last][from]);
            }
            int end = NEVER;
            for (int shop = 0; shop < town.shops; shop++) {
                if ((before >> shop & 1) == 1) {
                    int arrival = visitedBy[before * MOST_SHOPS + shop] + far[last][town.cells[shop]];
                    end = Math.min(end, openingFrom(last, arrival));
                }
            }
            return end;
        }

        private int openingFrom(int shop, int arrival) {
            return arrival <= LAST_SLOT ? opening[shop][arrival] : NEVER;
        }

        private void tellOpenings(int[] day, int shop) {
            int next = NEVER;
            for (int at = LAST_SLOT; at >= 0; at--) {
                next = (day[at] >> shop & 1) == 1 ? at : next;
                opening[shop][at] = next;
            }
        }

        private void measure(Town town, int from, int[] distances) {
            Arrays.fill(distances, NEVER);
            distances[from] = 0;
            queue[0] = from;
            int met = 1;
            for (int i = 0; i < met && i < CELLS; i++) {
                for (int way = 0; way < 4; way++) {
                    int to = cellBeside(town, queue[i], way);
                    if (to != NONE && distances[to] == NEVER && met < CELLS) {
                        distances[to] = distances[queue[i]] + 1;
                        queue[met] = to;
                        met++;
                    }
                }
            }
        }

        /** Where a way leads, NONE where it is none or nobody can be. */
        private static int cellBeside(Town town, int from, int way) {
            if (way < 0 || way >= EAST.length) {
                return NONE;
            }
            int to = cellAt(from % SIDE + EAST[way], from / SIDE + SOUTH[way]);
            return to != NONE && town.isWalkable(to) ? to : NONE;
        }
    }

    /** Asks of shops by the bodies of their kinds. */
    private static final class Asker {
        private static final int MOST_TRACED = 16, DEEPEST = 16;
        /** For each kind the bits of the kinds that it is. */
        private static final int[] IS = {0b000001, 0b000011, 0b000111, 0b001111, 0b010001, 0b110001};
        /** For each kind the body that begins: its own, or that of the nearest kind that it is. */
        private static final int[] SIZE_BODY = {10, 11, 11, 12, 13, 14}, MARK_BODY = {20, 21, 22, 24, 23, 23};

        private final int[] trail = new int[MOST_TRACED];
        private int traced = 0;

        static boolean isOfKind(int kind, int asked) {
            return (IS[kind] >> asked & 1) == 1;
        }

        int answer(Town town, int shop, int what) {
            traced = 0;
            int kind = town.kindOf(shop);
            return begin(town, shop, what == 0 ? SIZE_BODY[kind] : MARK_BODY[kind], 1);
        }

        /** No ask begins bodies deeper than six; the guard keeps that so. */
        private int begin(Town town, int shop, int body, int depth) {
            if (depth > DEEPEST) {
                return 0;
            }
            note(body);
            int kind = town.kindOf(shop);
            int deeper = depth + 1;
            switch (body) {
                case 10: return town.rents[shop];
                case 11: return begin(town, shop, 10, deeper) + begin(town, shop, MARK_BODY[kind], deeper);
                case 12: return -begin(town, shop, 11, deeper);
                case 13: return begin(town, shop, 10, deeper) - 100;
                case 14: return 2 * begin(town, shop, 13, deeper);
                case 20: return shop;
                case 21: return begin(town, shop, 20, deeper) + town.cells[shop];
                case 22: return begin(town, shop, 21, deeper) - 1000;
                case 23: return begin(town, shop, 20, deeper) - begin(town, shop, SIZE_BODY[kind], deeper);
                case 24: return 2 * begin(town, shop, 22, deeper);
                default: return 0;
            }
        }

        private void note(int body) {
            if (traced < MOST_TRACED) {
                trail[traced] = body;
                traced++;
            }
        }
    }
}
