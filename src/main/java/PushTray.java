import java.util.Arrays;

/** A tray of five tiles and one free cell, as ../shared/DOC.md tells it. */
public final class PushTray {
    public static final int NONE = -1, UNKNOWN = -101, OUTSIDE = -102, STATE = -103, FULL = -104;

    private static final int TILES = 5;
    private static final int CELLS = 6;
    private static final int COLUMNS = 3;
    /** What is in the free cell: the sign behind those of the tiles. */
    private static final int FREE = 5;
    /** In how many ways six signs can lie in six cells. */
    private static final int LAYS = 720;
    /** For each cell, in how many ways the cells behind it can be filled with what is left. */
    private static final int[] ORDERS = {120, 24, 6, 2, 1, 1};

    private static final int WITHIN_ROW = 0;
    private static final int BETWEEN_ROWS = 1;
    private static final int MOST_PRICE = 3;

    private static final int PAGE_LETTERS = 22;
    private static final int TRAY_LETTERS = 19;
    private static final int KINDS_PLACE = 7;
    private static final int GOAL_PLACE = 13;

    private static final int MOST_PUSHES = 999;
    private static final int MOST_SEEN = 6;
    private static final int MOST_CHEAPS = 20;
    private static final int MOST_ODDS = 6;
    private static final int MOST_TIMES = 60;

    private static final Kind[] KINDS = Kind.values();

    private final Lays lays = new Lays();
    private final Spread fromHere = new Spread(lays);
    private final Spread fromGoal = new Spread(lays);
    private final Chances chances = new Chances(lays);
    private final Standing now = new Standing();
    private final Standing kept = new Standing();
    private final int[] page = new int[PAGE_LETTERS];
    private final int[] row = new int[CELLS];
    private int letters;
    private int traysRead;
    private int cheapsDone;
    private boolean imageIsKept;

    public PushTray() {
    }

    // ---- the tray

    public int letter(int code) {
        if (!isWithin(code, 32, 126)) {
            return OUTSIDE;
        }
        if (letters >= PAGE_LETTERS) {
            return FULL;
        }
        page[letters] = code;
        letters++;
        return letters;
    }

    public int blank() {
        int had = letters;
        letters = 0;
        return had;
    }

    public int fault() {
        return firstWrongPlace();
    }

    public int tray() {
        if (letters != TRAY_LETTERS || firstWrongPlace() != TRAY_LETTERS) {
            return STATE;
        }
        now.start(readLay(0), readLay(GOAL_PLACE), readKinds());
        imageIsKept = false;
        letters = 0;
        traysRead++;
        return lays.place(now.lay, FREE);
    }

    // ---- tiles, cells

    public int tile(int tile, int what) {
        if (!isTile(tile)) {
            return UNKNOWN;
        }
        switch (what) {
            case 0: return kindOf(now.kinds, tile);
            case 1: return lays.place(now.lay, tile);
            case 2: return lays.place(now.goal, tile);
            case 3: return lays.price(now.lay, tile, now.kinds);
            case 4: return now.sortsOf(tile);
            case 5: return bestWay(now.sortsOf(tile));
            case 6:
                fromHere.searchFrom(now.lay, now.kinds);
                return fromHere.leastWith(tile, lays.place(now.goal, tile));
            default: return OUTSIDE;
        }
    }

    public int as(int tile, int kind) {
        if (!isTile(tile)) {
            return UNKNOWN;
        }
        if (!isKind(kind)) {
            return OUTSIDE;
        }
        return KINDS[kindOf(now.kinds, tile)].isA(kind) ? tile : NONE;
    }

    public int cell(int cell, int what) {
        if (!isCell(cell)) {
            return UNKNOWN;
        }
        switch (what) {
            case 0: return tileOrNone(lays.sign(now.lay, cell));
            case 1: return tileOrNone(lays.sign(now.goal, cell));
            case 2: return areNext(cell, lays.place(now.lay, FREE)) ? 1 : 0;
            default: return OUTSIDE;
        }
    }

    // ---- what is done

    public int push(int tile) {
        if (!isTile(tile)) {
            return UNKNOWN;
        }
        int price = lays.price(now.lay, tile, now.kinds);
        if (price == NONE) {
            return STATE;
        }
        if (now.pushes >= MOST_PUSHES) {
            return FULL;
        }
        now.lay = lays.pushed(now.lay, tile);
        now.pushes++;
        now.costs += price;
        return price;
    }

    public int exchange(int a, int b) {
        if (!isCell(a) || !isCell(b) || a == b) {
            return UNKNOWN;
        }
        now.lay = lays.exchanged(now.lay, a, b);
        return lays.place(now.lay, FREE);
    }

    public int aim(int a, int b) {
        if (!isCell(a) || !isCell(b) || a == b) {
            return UNKNOWN;
        }
        now.goal = lays.exchanged(now.goal, a, b);
        return lays.place(now.goal, FREE);
    }

    public int recast(int tile, int kind) {
        if (!isTile(tile)) {
            return UNKNOWN;
        }
        if (!isKind(kind)) {
            return OUTSIDE;
        }
        int was = kindOf(now.kinds, tile);
        now.kinds = withKind(now.kinds, tile, kind);
        return was;
    }

    // ---- what would be

    public int least(int what) {
        if (!isWithin(what, 0, 2)) {
            return OUTSIDE;
        }
        if (!hasTray()) {
            return STATE;
        }
        fromGoal.searchFrom(now.goal, now.kinds);
        if (what == 0) {
            return fromGoal.costOf(now.lay);
        }
        return what == 1 ? cheapestTile(now.lay) : pushesToGoal();
    }

    public int reach(int what) {
        if (!isWithin(what, 0, 1)) {
            return OUTSIDE;
        }
        if (!hasTray()) {
            return STATE;
        }
        fromHere.searchFrom(now.lay, now.kinds);
        return what == 0 ? fromHere.size() : fromHere.farthest();
    }

    public int home(int tile, int cell) {
        if (!isTile(tile) || !isCell(cell)) {
            return UNKNOWN;
        }
        fromHere.searchFrom(now.lay, now.kinds);
        return fromHere.leastWith(tile, cell);
    }

    public int swaps() {
        if (!hasTray()) {
            return STATE;
        }
        return CELLS - circles();
    }

    public int cheap(int what) {
        if (!isWithin(what, 0, 1)) {
            return OUTSIDE;
        }
        if (!hasTray() || cheapsDone >= MOST_CHEAPS) {
            return STATE;
        }
        cheapsDone++;
        fromGoal.searchFrom(now.goal, now.kinds);
        int best = NONE;
        int bestCost = NONE;
        for (int a = 0; a < CELLS; a++) {
            for (int b = a + 1; b < CELLS; b++) {
                int cost = fromGoal.costOf(lays.exchanged(now.lay, a, b));
                if (cost != NONE && (bestCost == NONE || cost < bestCost)) {
                    best = 10 * a + b;
                    bestCost = cost;
                }
            }
        }
        return what == 0 ? best : bestCost;
    }

    public int odds(int tile, int cell, int pushes, int what) {
        if (!isTile(tile) || !isCell(cell)) {
            return UNKNOWN;
        }
        if (!isWithin(pushes, 1, MOST_ODDS) || !isWithin(what, 0, 1)) {
            return OUTSIDE;
        }
        chances.drawFrom(now.lay, now.kinds, pushes);
        int parts = chances.partsWith(tile, cell);
        int common = Math.max(1, greatestDivisor(Chances.WHOLE, parts));
        return (what == 0 ? parts : Chances.WHOLE) / common;
    }

    // ---- what is seen

    public int see(int tile, int way, int cost) {
        if (!isTile(tile)) {
            return UNKNOWN;
        }
        if (!isWithin(way, WITHIN_ROW, BETWEEN_ROWS) || !isWithin(cost, 0, MOST_PRICE)) {
            return OUTSIDE;
        }
        if (now.seen >= MOST_SEEN) {
            return FULL;
        }
        now.narrow(tile, sortsThatCost(way, cost));
        return now.seen;
    }

    public int forget() {
        int had = now.seen;
        now.forgetSeen();
        return had;
    }

    public int runs(int times, int seed, int what) {
        if (!isWithin(times, 1, MOST_TIMES) || seed < 0 || !isWithin(what, 0, 2)) {
            return OUTSIDE;
        }
        if (!hasTray()) {
            return STATE;
        }
        int lay = now.lay;
        int drawn = seed;
        int costs = 0;
        for (int time = 0; time < times; time++) {
            int choices = lays.choices(lay, now.kinds);
            if (choices > 0) {
                drawn = nextSeed(drawn);
                int tile = lays.choice(lay, now.kinds, (drawn / 65536) % choices);
                costs += lays.price(lay, tile, now.kinds);
                lay = lays.pushed(lay, tile);
            }
        }
        if (what == 0) {
            return costs;
        }
        return what == 1 ? cellsAlike(lay, now.goal) : drawn;
    }

    // ---- what is told of all

    public int image() {
        if (!hasTray()) {
            return STATE;
        }
        kept.copy(now);
        imageIsKept = true;
        return now.pushes;
    }

    public int restore() {
        if (!imageIsKept) {
            return STATE;
        }
        now.copy(kept);
        return now.pushes;
    }

    public int count(int what) {
        switch (what) {
            case 0: return lays.place(now.lay, FREE);
            case 1: return lays.place(now.goal, FREE);
            case 2: return now.pushes;
            case 3: return now.costs;
            case 4: return lays.choices(now.lay, now.kinds);
            case 5: return hasTray() ? cellsAlike(now.lay, now.goal) : 0;
            case 6: return now.seen;
            case 7: return letters;
            case 8: return traysRead;
            case 9: return cheapsDone;
            default: return OUTSIDE;
        }
    }

    public long digest() {
        long hash = 1291L;
        if (hasTray()) {
            hash = mixTiles(hash);
            hash = mixCells(hash);
            hash = mixCosts(hash);
        }
        for (int place = 0; place < letters && place < PAGE_LETTERS; place++) {
            hash = mix(hash, page[place]);
        }
        for (int what = 0; what <= 9; what++) {
            hash = mix(hash, count(what));
        }
        return hash;
    }

    private long mixTiles(long start) {
        long hash = start;
        for (int tile = 0; tile < TILES; tile++) {
            for (int what = 0; what <= 6; what++) {
                hash = mix(hash, tile(tile, what));
            }
            hash = mix(hash, home(tile, 0));
            hash = mix(hash, odds(tile, 4, 3, 0));
            hash = mix(hash, odds(tile, 4, 3, 1));
        }
        return hash;
    }

    private long mixCells(long start) {
        long hash = start;
        for (int cell = 0; cell < CELLS; cell++) {
            for (int what = 0; what <= 2; what++) {
                hash = mix(hash, cell(cell, what));
            }
        }
        return hash;
    }

    private long mixCosts(long start) {
        long hash = start;
        for (int what = 0; what <= 2; what++) {
            hash = mix(hash, least(what));
        }
        hash = mix(hash, reach(0));
        hash = mix(hash, reach(1));
        return mix(hash, swaps());
    }

    private static long mix(long hash, long number) {
        return 31L * hash + number;
    }

    // ---- what numbers name

    private static boolean isWithin(int number, int from, int to) {
        return number >= from && number <= to;
    }

    private static boolean isKind(int kind) {
        return isWithin(kind, 0, KINDS.length - 1);
    }

    private boolean hasTray() {
        return now.lay != NONE;
    }

    /** Without a tray no number names a tile or a cell. */
    private boolean isTile(int tile) {
        return hasTray() && isWithin(tile, 0, TILES - 1);
    }

    private boolean isCell(int cell) {
        return hasTray() && isWithin(cell, 0, CELLS - 1);
    }

    private static int tileOrNone(int sign) {
        return sign == FREE ? NONE : sign;
    }

    /** Cells 2 and 3 follow one another, but lie in two rows. */
    private static boolean areNext(int a, int b) {
        int apart = Math.abs(a - b);
        return apart == COLUMNS || (apart == 1 && isOneRow(a, b));
    }

    private static boolean isOneRow(int a, int b) {
        return a / COLUMNS == b / COLUMNS;
    }

    // ---- kinds of five tiles in one number: three bits for each

    private static int kindOf(int kinds, int tile) {
        int kind = (kinds >> 3 * tile) & 7;
        return kind < KINDS.length ? kind : 0;
    }

    private static int withKind(int kinds, int tile, int kind) {
        return (kinds & ~(7 << 3 * tile)) | (kind << 3 * tile);
    }

    private static int kindByLetter(int code) {
        for (int kind = 0; kind < KINDS.length; kind++) {
            if (KINDS[kind].letter == code) {
                return kind;
            }
        }
        return NONE;
    }

    // ---- the page

    private int firstWrongPlace() {
        for (int place = 0; place < letters; place++) {
            if (!fits(place)) {
                return place;
            }
        }
        return letters;
    }

    private boolean fits(int place) {
        if (place >= TRAY_LETTERS) {
            return false;
        }
        if (place >= GOAL_PLACE) {
            return isNewSign(GOAL_PLACE, place);
        }
        if (place < CELLS) {
            return isNewSign(0, place);
        }
        int code = codeAt(place);
        if (place == KINDS_PLACE - 1 || place == GOAL_PLACE - 1) {
            return code == ';';
        }
        return kindByLetter(code) != NONE;
    }

    /** Each sign stands but once among those from one place on. */
    private boolean isNewSign(int from, int place) {
        int code = codeAt(place);
        if (signByLetter(code) == NONE) {
            return false;
        }
        for (int earlier = from; earlier < place; earlier++) {
            if (codeAt(earlier) == code) {
                return false;
            }
        }
        return true;
    }

    private int codeAt(int place) {
        return isWithin(place, 0, PAGE_LETTERS - 1) ? page[place] : NONE;
    }

    private static int signByLetter(int code) {
        if (code == '.') {
            return FREE;
        }
        return isWithin(code, '0', '4') ? code - '0' : NONE;
    }

    private int readLay(int from) {
        for (int cell = 0; cell < CELLS; cell++) {
            row[cell] = signByLetter(codeAt(from + cell));
        }
        return Lays.numberOf(row);
    }

    private int readKinds() {
        int kinds = 0;
        for (int tile = 0; tile < TILES; tile++) {
            kinds = withKind(kinds, tile, kindByLetter(codeAt(KINDS_PLACE + tile)));
        }
        return kinds;
    }

    // ---- the way to the goal

    /** The least tile whose push lies on a cheapest way to the goal, by the costs last searched from it. */
    private int cheapestTile(int lay) {
        int cost = fromGoal.costOf(lay);
        if (cost == NONE) {
            return NONE;
        }
        for (int tile = 0; tile < TILES; tile++) {
            int price = lays.price(lay, tile, now.kinds);
            if (price != NONE && fromGoal.costOf(lays.pushed(lay, tile)) + price == cost) {
                return tile;
            }
        }
        return NONE;
    }

    private int pushesToGoal() {
        if (fromGoal.costOf(now.lay) == NONE) {
            return NONE;
        }
        int lay = now.lay;
        int pushes = 0;
        while (lay != now.goal && pushes < LAYS) {
            lay = lays.pushed(lay, cheapestTile(lay));
            pushes++;
        }
        return pushes;
    }

    // ---- exchanges

    /** Signs that have to go round among themselves; one that lies as in the goal is a circle alone. */
    private int circles() {
        int circles = 0;
        int done = 0;
        for (int first = 0; first < CELLS; first++) {
            if (((done >> first) & 1) == 0) {
                circles++;
            }
            int cell = first;
            for (int step = 0; step < CELLS && ((done >> cell) & 1) == 0; step++) {
                done |= 1 << cell;
                cell = lays.place(now.goal, lays.sign(now.lay, cell));
            }
        }
        return circles;
    }

    private int cellsAlike(int lay, int other) {
        int alike = 0;
        for (int cell = 0; cell < CELLS; cell++) {
            if (lays.sign(lay, cell) == lays.sign(other, cell)) {
                alike++;
            }
        }
        return alike;
    }

    // ---- sorts and ways

    private static int sortsThatCost(int way, int cost) {
        int sorts = 0;
        for (int kind = 0; kind < KINDS.length; kind++) {
            if (KINDS[kind].price(way) == cost) {
                sorts |= 1 << kind;
            }
        }
        return sorts;
    }

    private static int bestWay(int sorts) {
        if (sorts == 0) {
            return NONE;
        }
        return mostLeft(sorts, BETWEEN_ROWS) < mostLeft(sorts, WITHIN_ROW) ? BETWEEN_ROWS : WITHIN_ROW;
    }

    private static int mostLeft(int sorts, int way) {
        int most = 0;
        for (int cost = 0; cost <= MOST_PRICE; cost++) {
            most = Math.max(most, Integer.bitCount(sorts & sortsThatCost(way, cost)));
        }
        return most;
    }

    // ---- numbers

    private static int nextSeed(int seed) {
        return (int) ((1103515245L * seed + 12345L) % 2147483648L);
    }

    /** Forty turns are far more than numbers up to Chances.WHOLE can need. */
    private static int greatestDivisor(int a, int b) {
        int more = a;
        int less = b;
        for (int turn = 0; turn < 40 && less != 0; turn++) {
            int rest = more % less;
            more = less;
            less = rest;
        }
        return more;
    }

    /** What a tile is, and what its push costs in each way (0: it does not go). */
    private enum Kind {
        TILE('t', 1, 1, 1),
        HEAVY('h', 2, 2, 1 | 2),
        NAILED('n', 0, 0, 1 | 4),
        SHY('s', 1, 0, 1 | 8),
        STONE('o', 3, 3, 1 | 2 | 16);

        private final int letter;
        private final int priceWithinRow;
        private final int priceBetweenRows;
        /** A bit for each kind that a tile of this one can be taken as. */
        private final int kinds;

        Kind(int letter, int priceWithinRow, int priceBetweenRows, int kinds) {
            this.letter = letter;
            this.priceWithinRow = priceWithinRow;
            this.priceBetweenRows = priceBetweenRows;
            this.kinds = kinds;
        }

        int price(int way) {
            return way == WITHIN_ROW ? priceWithinRow : priceBetweenRows;
        }

        boolean isA(int kind) {
            return ((kinds >> kind) & 1) == 1;
        }
    }

    /** All ways in which six signs can lie, by number, so that each search walks over plain numbers. */
    private static final class Lays {
        private final int[] signs = new int[LAYS * CELLS];
        private final int[] places = new int[LAYS * CELLS];
        private final int[] pushes = new int[LAYS * CELLS];
        private final int[] ways = new int[LAYS * CELLS];
        private final int[] row = new int[CELLS];

        Lays() {
            for (int lay = 0; lay < LAYS; lay++) {
                spell(lay);
            }
            for (int lay = 0; lay < LAYS; lay++) {
                link(lay);
            }
        }

        /** The number of a row in which each sign stands once: rows are numbered in the order of their signs. */
        static int numberOf(int[] row) {
            int left = (1 << CELLS) - 1;
            int number = 0;
            for (int cell = 0; cell < row.length && cell < CELLS; cell++) {
                number += ORDERS[cell] * Integer.bitCount(left & ((1 << row[cell]) - 1));
                left &= ~(1 << row[cell]);
            }
            return number;
        }

        private void spell(int lay) {
            int left = (1 << CELLS) - 1;
            int rest = lay;
            for (int cell = 0; cell < CELLS; cell++) {
                int sign = leftSign(left, rest / ORDERS[cell]);
                rest %= ORDERS[cell];
                left &= ~(1 << sign);
                signs[lay * CELLS + cell] = sign;
                places[lay * CELLS + sign] = cell;
            }
        }

        /** Of the signs that are left, as bits, the one behind so many others. */
        private static int leftSign(int left, int others) {
            int ahead = 0;
            for (int sign = 0; sign < CELLS; sign++) {
                if (((left >> sign) & 1) == 1) {
                    if (ahead == others) {
                        return sign;
                    }
                    ahead++;
                }
            }
            return FREE;
        }

        private void link(int lay) {
            int free = place(lay, FREE);
            for (int sign = 0; sign < CELLS; sign++) {
                int cell = place(lay, sign);
                boolean next = areNext(cell, free);
                pushes[lay * CELLS + sign] = next ? exchanged(lay, cell, free) : NONE;
                ways[lay * CELLS + sign] = !next ? NONE : isOneRow(cell, free) ? WITHIN_ROW : BETWEEN_ROWS;
            }
        }

        private static int read(int[] table, int lay, int column) {
            boolean stands = lay >= 0 && lay < LAYS && column >= 0 && column < CELLS;
            return stands ? table[lay * CELLS + column] : NONE;
        }

        int sign(int lay, int cell) {
            return read(signs, lay, cell);
        }

        int place(int lay, int sign) {
            return read(places, lay, sign);
        }

        /** How all lies when a tile next to the free cell has gone there, whatever its kind. */
        int pushed(int lay, int tile) {
            return read(pushes, lay, tile);
        }

        int exchanged(int lay, int a, int b) {
            for (int cell = 0; cell < CELLS; cell++) {
                int from = cell == a ? b : cell == b ? a : cell;
                row[cell] = sign(lay, from);
            }
            return numberOf(row);
        }

        int price(int lay, int tile, int kinds) {
            int way = read(ways, lay, tile);
            if (way == NONE) {
                return NONE;
            }
            int price = KINDS[kindOf(kinds, tile)].price(way);
            return price == 0 ? NONE : price;
        }

        int choices(int lay, int kinds) {
            int choices = 0;
            for (int tile = 0; tile < TILES; tile++) {
                if (price(lay, tile, kinds) != NONE) {
                    choices++;
                }
            }
            return choices;
        }

        /** Of the tiles that can be pushed, by number, the one behind so many others. */
        int choice(int lay, int kinds, int others) {
            int ahead = 0;
            for (int tile = 0; tile < TILES; tile++) {
                if (price(lay, tile, kinds) != NONE) {
                    if (ahead == others) {
                        return tile;
                    }
                    ahead++;
                }
            }
            return NONE;
        }
    }

    /** What an image keeps. */
    private static final class Standing {
        private static final int ALL_SORTS = 31;

        private int lay = NONE;
        private int goal = NONE;
        private int kinds;
        private int pushes;
        private int costs;
        private int seen;
        /** What is seen tells but which sorts are left, so these alone are held. */
        private final int[] sorts = new int[TILES];

        void start(int lay, int goal, int kinds) {
            this.lay = lay;
            this.goal = goal;
            this.kinds = kinds;
            pushes = 0;
            costs = 0;
            forgetSeen();
        }

        void forgetSeen() {
            seen = 0;
            Arrays.fill(sorts, ALL_SORTS);
        }

        void narrow(int tile, int sortsLeft) {
            if (isWithin(tile, 0, TILES - 1)) {
                sorts[tile] &= sortsLeft;
                seen++;
            }
        }

        int sortsOf(int tile) {
            return isWithin(tile, 0, TILES - 1) ? sorts[tile] : 0;
        }

        void copy(Standing other) {
            start(other.lay, other.goal, other.kinds);
            pushes = other.pushes;
            costs = other.costs;
            seen = other.seen;
            System.arraycopy(other.sorts, 0, sorts, 0, TILES);
        }
    }

    /** The least costs of pushes from one lay to all others; a push back costs the same, so to it, too. */
    private static final class Spread {
        private final Lays lays;
        private final int[] costs = new int[LAYS];
        private final int[] found = new int[LAYS];
        private int size;
        private int most;
        private int start = NONE;
        private int kinds = NONE;

        Spread(Lays lays) {
            this.lays = lays;
        }

        /** Many calls ask the same search, which is the dearest of all, so the last one stands. */
        void searchFrom(int lay, int kinds) {
            if (lay == start && kinds == this.kinds) {
                return;
            }
            start = lay;
            this.kinds = kinds;
            size = 0;
            most = 0;
            Arrays.fill(costs, NONE);
            note(lay, 0);
            for (int cost = 0; cost < MOST_PRICE * LAYS && cost <= most; cost++) {
                // What is found meanwhile costs more, so it waits for its own turn.
                int known = size;
                for (int i = 0; i < known; i++) {
                    if (costOf(found[i]) == cost) {
                        noteNeighbours(found[i], cost);
                    }
                }
            }
        }

        private void noteNeighbours(int lay, int cost) {
            for (int tile = 0; tile < TILES; tile++) {
                int price = lays.price(lay, tile, kinds);
                if (price != NONE) {
                    note(lays.pushed(lay, tile), cost + price);
                }
            }
        }

        private void note(int lay, int cost) {
            if (!isWithin(lay, 0, LAYS - 1)) {
                return;
            }
            if (costs[lay] == NONE && size < LAYS) {
                found[size] = lay;
                size++;
                costs[lay] = cost;
                most = Math.max(most, cost);
            } else if (cost < costs[lay]) {
                costs[lay] = cost;
            }
        }

        int costOf(int lay) {
            return isWithin(lay, 0, LAYS - 1) ? costs[lay] : NONE;
        }

        int size() {
            return size;
        }

        int farthest() {
            int farthest = 0;
            for (int i = 0; i < size; i++) {
                farthest = Math.max(farthest, costOf(found[i]));
            }
            return farthest;
        }

        int leastWith(int sign, int cell) {
            int least = NONE;
            for (int i = 0; i < size; i++) {
                int cost = costOf(found[i]);
                if (lays.place(found[i], sign) == cell && (least == NONE || cost < least)) {
                    least = cost;
                }
            }
            return least;
        }
    }

    /** How likely each lay is behind drawn pushes. */
    private static final class Chances {
        /** 6 to the 6: six times it can be parted among one, two or three choices, with no rest. */
        static final int WHOLE = 46656;

        private final Lays lays;
        private int[] parts = new int[LAYS];
        private int[] nextParts = new int[LAYS];
        private int start = NONE;
        private int kinds = NONE;
        private int pushes;

        Chances(Lays lays) {
            this.lays = lays;
        }

        void drawFrom(int lay, int kinds, int pushes) {
            if (lay == start && kinds == this.kinds && pushes == this.pushes) {
                return;
            }
            start = lay;
            this.kinds = kinds;
            this.pushes = pushes;
            Arrays.fill(parts, 0);
            if (isWithin(lay, 0, LAYS - 1)) {
                parts[lay] = WHOLE;
            }
            for (int push = 0; push < pushes; push++) {
                Arrays.fill(nextParts, 0);
                for (int from = 0; from < LAYS; from++) {
                    if (parts[from] > 0) {
                        share(from, parts[from], lays.choices(from, kinds));
                    }
                }
                int[] spent = parts;
                parts = nextParts;
                nextParts = spent;
            }
        }

        private void share(int lay, int whole, int choices) {
            if (choices == 0) {
                give(lay, whole);
                return;
            }
            for (int tile = 0; tile < TILES; tile++) {
                if (lays.price(lay, tile, kinds) != NONE) {
                    give(lays.pushed(lay, tile), whole / choices);
                }
            }
        }

        private void give(int lay, int share) {
            if (isWithin(lay, 0, LAYS - 1)) {
                nextParts[lay] += share;
            }
        }

        int partsWith(int sign, int cell) {
            int sum = 0;
            for (int lay = 0; lay < LAYS; lay++) {
                if (parts[lay] > 0 && lays.place(lay, sign) == cell) {
                    sum += parts[lay];
                }
            }
            return sum;
        }
    }
}
