import java.math.BigInteger;

/** The boundaries of promises 19 to 21: as much as can be seen, the fewest runs and the most, seeds that wrap. */
final class EdgeSeenTest {
    private static final BigInteger SEEDS = BigInteger.TWO.pow(31);
    private static final BigInteger TIMES = BigInteger.valueOf(1103515245);
    private static final BigInteger MORE = BigInteger.valueOf(12345);

    private EdgeSeenTest() {
    }

    public static void main(String[] args) {
        seeUnknown();
        seeOutside();
        seeFull();
        seeInside();
        seeUpToSix();
        forget();
        runsRefused();
        runsOfNoChoice();
        runsOfOneChoice();
        seedsThatWrap();
        drawsOfEachRest();
        cellsThen();
        Check.end();
    }

    // ---- 19: "UNKNOWN: tile (also without a TRAY); OUTSIDE: way (0, 1), cost (0 to 3); FULL"

    private static void seeUnknown() {
        int[][] asked = {{0, 0}, {1, 3}, {-1, 0}, {2, 4}};
        for (int[] one : asked) {
            String more = ", " + one[0] + ", " + one[1] + ")";
            for (int tile : Edges.beyond(0, 4)) {
                Edges.refused("see(" + tile + more, x -> x.see(tile, one[0], one[1]), PushTray.UNKNOWN, Edges.ALL);
            }
            Edges.refused("see(0" + more, x -> x.see(0, one[0], one[1]), PushTray.UNKNOWN, Edges.WITHOUT_TRAY);
            Edges.refused("see(4" + more, x -> x.see(4, one[0], one[1]), PushTray.UNKNOWN, Edges.WITHOUT_TRAY);
        }
    }

    /** Ahead of FULL, too. */
    private static void seeOutside() {
        for (int way : Edges.beyond(0, 1)) {
            Edges.refused("see(0, " + way + ", 0)", x -> x.see(0, way, 0), PushTray.OUTSIDE, Edges.WITH_TRAY);
            Edges.refused("see(4, " + way + ", 3)", x -> x.see(4, way, 3), PushTray.OUTSIDE, Edges.WITH_TRAY);
            Edges.refused("see(4, " + way + ", 4)", x -> x.see(4, way, 4), PushTray.OUTSIDE, Edges.WITH_TRAY);
        }
        for (int cost : Edges.beyond(0, 3)) {
            Edges.refused("see(0, 0, " + cost + ")", x -> x.see(0, 0, cost), PushTray.OUTSIDE, Edges.WITH_TRAY);
            Edges.refused("see(4, 1, " + cost + ")", x -> x.see(4, 1, cost), PushTray.OUTSIDE, Edges.WITH_TRAY);
        }
    }

    private static void seeFull() {
        for (int tile = 0; tile < 5; tile += 4) {
            for (int way = 0; way <= 1; way++) {
                for (int cost = 0; cost <= 3; cost++) {
                    int t = tile;
                    int w = way;
                    int c = cost;
                    Edges.refused("see(" + t + ", " + w + ", " + c + ")", x -> x.see(t, w, c), PushTray.FULL, Edges.Made.FULL);
                }
            }
        }
    }

    /** Each cost in each way, of the first tile and the last; way 1 that costs 0 leaves the shy one as well. */
    private static void seeInside() {
        int[][] sorts = {{4, 1 | 8, 2, 16}, {4 | 8, 1, 2, 16}};
        for (int tile = 0; tile < 5; tile += 4) {
            for (int way = 0; way <= 1; way++) {
                for (int cost = 0; cost <= 3; cost++) {
                    PushTray x = Check.tray(Edges.TEXT);
                    String call = "see(" + tile + ", " + way + ", " + cost + ")";
                    Check.due(call, x.see(tile, way, cost), 1);
                    Check.due("sorts behind " + call, x.tile(tile, 4), sorts[way][cost]);
                    Check.due("sorts of another tile behind " + call, x.tile(4 - tile, 4), 31);
                }
            }
        }
    }

    /** What is seen twice counts twice, and what is against it, too; behind forget() and restore() there is room again. */
    private static void seeUpToSix() {
        PushTray x = Check.tray(Edges.TEXT);
        int[][] seen = {{0, 0, 1}, {0, 0, 1}, {0, 0, 2}, {4, 1, 3}, {1, 1, 0}};
        for (int many = 0; many < seen.length; many++) {
            Check.due("see " + (many + 1), x.see(seen[many][0], seen[many][1], seen[many][2]), many + 1);
        }
        x.image();
        Check.due("see 6", x.see(2, 0, 0), 6);
        Check.due("see 7", x.see(3, 0, 0), PushTray.FULL);
        Check.due("restore()", x.restore(), 0);
        Check.due("seen behind restore()", x.count(6), 5);
        Check.due("see 6 again", x.see(3, 0, 0), 6);
        Check.due("sorts of what was seen behind the image", x.tile(2, 4), 31);
        x.image();
        Check.due("forget()", x.forget(), 6);
        Check.due("see 1", x.see(3, 0, 0), 1);
        x.restore();
        Check.due("see 7, behind an image of six", x.see(3, 0, 0), PushTray.FULL);
        Check.due("seen", x.count(6), 6);
    }

    // ---- 20: "how much was": nothing, and all that can be

    private static void forget() {
        int[] had = {0, 0, 0, 0, 2, 6};
        for (Edges.Made made : Edges.ALL) {
            PushTray x = made.make();
            int letters = x.count(7);
            Check.due("forget() of " + made, x.forget(), had[made.ordinal()]);
            Check.due("forget() again of " + made, x.forget(), 0);
            Check.due("seen behind forget() of " + made, x.count(6), 0);
            Check.due("letters behind forget() of " + made, x.count(7), letters);
        }
        Edges.refused("forget() of nothing", x -> x.forget(), 0, Edges.Made.NEW, Edges.Made.LETTERS, Edges.Made.READ);
    }

    // ---- 21: "OUTSIDE: times (1 to 60), seed (0 at least), what; STATE: no TRAY"

    private static void runsRefused() {
        for (int times : Edges.beyond(1, 60)) {
            Edges.refused("runs(" + times + ", 0, 0)", x -> x.runs(times, 0, 0), PushTray.OUTSIDE, Edges.ALL);
        }
        int[] seeds = {-1, -2, Integer.MIN_VALUE, Integer.MIN_VALUE + 1};
        for (int seed : seeds) {
            Edges.refused("runs(1, " + seed + ", 0)", x -> x.runs(1, seed, 0), PushTray.OUTSIDE, Edges.ALL);
            Edges.refused("runs(60, " + seed + ", 2)", x -> x.runs(60, seed, 2), PushTray.OUTSIDE, Edges.ALL);
        }
        for (int what : Edges.beyond(0, 2)) {
            Edges.refused("runs(60, 1, " + what + ")", x -> x.runs(60, 1, what), PushTray.OUTSIDE, Edges.ALL);
        }
        for (int what = 0; what <= 2; what++) {
            int asked = what;
            Edges.refused("runs(1, 0, " + what + ")", x -> x.runs(1, 0, asked), PushTray.STATE, Edges.WITHOUT_TRAY);
            Edges.refused("runs(60, 2147483647, " + what + ")", x -> x.runs(60, Integer.MAX_VALUE, asked), PushTray.STATE,
                Edges.WITHOUT_TRAY);
        }
    }

    private static void runsAre(PushTray x, int times, int seed, int costs, int cells, long then) {
        String call = "runs(" + times + ", " + seed + ", ";
        long before = x.digest();
        Check.due(call + "0)", x.runs(times, seed, 0), costs);
        Check.due(call + "1)", x.runs(times, seed, 1), cells);
        Check.due(call + "2)", x.runs(times, seed, 2), then);
        Check.due(call + ".) changes nothing", x.digest(), before);
    }

    private static long next(long seed) {
        return BigInteger.valueOf(seed).multiply(TIMES).add(MORE).mod(SEEDS).longValueExact();
    }

    /** The seed of which this one is the next. */
    private static int before(long seed) {
        return BigInteger.valueOf(seed).subtract(MORE).multiply(TIMES.modInverse(SEEDS)).mod(SEEDS).intValueExact();
    }

    /** "none: nothing is drawn". */
    private static void runsOfNoChoice() {
        PushTray x = Check.tray("01.234;tnttn;0123.4");
        int[] seeds = {0, 1, 65536, Integer.MAX_VALUE};
        for (int seed : seeds) {
            runsAre(x, 1, seed, 0, 3, seed);
            runsAre(x, 60, seed, 0, 3, seed);
        }
    }

    /** A draw of one is drawn all the same, each time: a stone goes to and fro. */
    private static void runsOfOneChoice() {
        int[] seeds = {0, 1, 65536, Integer.MAX_VALUE - 1, Integer.MAX_VALUE};
        for (int seed : seeds) {
            PushTray x = Check.tray("0123.4;nnnno;01234.");
            long then = seed;
            for (int times = 1; times <= 60; times++) {
                then = next(then);
                if (times == 1 || times == 2 || times > 58) {
                    runsAre(x, times, seed, 3 * times, times % 2 == 1 ? 6 : 4, then);
                }
            }
        }
    }

    /** A next seed of 0, of 1 and of the greatest rest there is, and those round the half of it. */
    private static void seedsThatWrap() {
        long[] thens = {0, 1, 65535, 65536, (1L << 30) - 1, 1L << 30, (1L << 31) - 2, (1L << 31) - 1};
        for (long then : thens) {
            PushTray x = Check.tray("0123.4;nnnnt;01234.");
            int seed = before(then);
            runsAre(x, 1, seed, 1, 6, then);
            runsAre(x, 2, seed, 2, 4, next(then));
        }
    }

    /** By 65536 rounded down: what is drawn changes between 65535 and 65536, and goes round by two or by three choices. */
    private static void drawsOfEachRest() {
        long[] thens = {0, 65535, 65536, 131071, 131072, 196607, 196608, (1L << 31) - 65537, (1L << 31) - 65536, (1L << 31) - 1};
        for (long then : thens) {
            long drawn = then / 65536;
            int seed = before(then);
            // What it costs tells which went: of tiles 1 and 4, of 0 and 1 (3 is shy, and below), of 0, 1 and 3.
            runsAre(Check.tray("01.234;thnso;01.234"), 1, seed, drawn % 2 == 0 ? 2 : 3, 4, then);
            runsAre(Check.tray("0.1234;thhso;0.1234"), 1, seed, drawn % 2 == 0 ? 1 : 2, 4, then);
            runsAre(Check.tray("0.1234;thtoo;0.1234"), 1, seed, (int) (drawn % 3) + 1, 4, then);
        }
    }

    /** No cell holds what it does in the goal, or each does; how all lies now is not changed. */
    private static void cellsThen() {
        runsAre(Check.tray("0123.4;nnnnh;01234."), 1, 0, 2, 6, 12345);
        runsAre(Check.tray("0123.4;nnnnh;.43120"), 1, 0, 2, 0, 12345);
    }
}
