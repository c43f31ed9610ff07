/** Promises 19 to 21: see, forget, runs. */
final class SeenTest {
    private static final int[][] COSTS = {{1, 1}, {2, 2}, {0, 0}, {1, 0}, {3, 3}};

    private SeenTest() {
    }

    public static void main(String[] args) {
        see();
        seeOfEachTile();
        ways();
        forget();
        runs();
        runsOfLikeNumbers();
        Check.end();
    }

    private static void see() {
        for (int way = 0; way <= 1; way++) {
            for (int cost = 0; cost <= 3; cost++) {
                PushTray x = Check.tray("01.234;nnnnn;01.234");
                int sorts = 0;
                for (int kind = 0; kind < 5; kind++) {
                    sorts += COSTS[kind][way] == cost ? 1 << kind : 0;
                }
                Check.due("see(2, " + way + ", " + cost + ")", x.see(2, way, cost), 1);
                Check.due("sorts behind see(2, " + way + ", " + cost + ")", x.tile(2, 4), sorts);
            }
        }
    }

    private static void seeOfEachTile() {
        PushTray x = Check.tray("01.234;thnso;01.234");
        Check.due("see 1", x.see(0, 0, 1), 1);
        Check.due("see 2", x.see(1, 1, 0), 2);
        Check.due("see 3", x.see(0, 1, 1), 3);
        Check.due("see 4, which is against the others", x.see(0, 0, 3), 4);
        Check.due("see 5", x.see(4, 1, 3), 5);
        Check.due("seen", x.count(6), 5);
        int[] sorts = {0, 4 | 8, 31, 31, 16};
        for (int tile = 0; tile < 5; tile++) {
            Check.due("sorts of " + tile, x.tile(tile, 4), sorts[tile]);
        }
        x.recast(4, 0);
        x.exchange(0, 1);
        x.push(4);
        Check.due("sorts whatever it is taken as", x.tile(4, 4), 16);
    }

    private static void ways() {
        PushTray x = Check.tray("01.234;thnso;01.234");
        Check.due("way of five sorts", x.tile(0, 5), 0);
        x.see(0, 0, 1);
        Check.due("way of a tile or a shy one", x.tile(0, 5), 1);
        x.see(1, 1, 0);
        Check.due("way of a nailed or a shy one", x.tile(1, 5), 0);
        x.see(2, 0, 2);
        Check.due("way of one sort", x.tile(2, 5), 0);
        x.see(2, 0, 0);
        Check.due("way of none", x.tile(2, 5), PushTray.NONE);
    }

    private static void forget() {
        PushTray x = Check.tray("01.234;thnso;01.234");
        x.see(0, 0, 2);
        x.see(1, 0, 3);
        x.see(1, 1, 0);
        Check.due("forget()", x.forget(), 3);
        Check.due("forget() again", x.forget(), 0);
        Check.due("seen", x.count(6), 0);
        for (int tile = 0; tile < 5; tile++) {
            Check.due("sorts of " + tile, x.tile(tile, 4), 31);
        }
        Check.due("see behind forget()", x.see(0, 0, 2), 1);
    }

    private static void runsAre(PushTray x, int times, int seed, int costs, int cells, int then) {
        String call = "runs(" + times + ", " + seed + ", ";
        long before = x.digest();
        Check.due(call + "0)", x.runs(times, seed, 0), costs);
        Check.due(call + "1)", x.runs(times, seed, 1), cells);
        Check.due(call + "2)", x.runs(times, seed, 2), then);
        Check.due(call + ".) changes nothing", x.digest(), before);
    }

    /** Seed 1 goes to 1103527590, which is 16838 by 65536: the lesser of two tiles, the last of three. */
    private static void runs() {
        runsAre(Check.tray("01234.;ttttt;01.342"), 1, 1, 1, 6, 1103527590);
        runsAre(Check.tray("01234.;tthtt;01.342"), 1, 1, 2, 6, 1103527590);
        runsAre(Check.tray("01234.;ttttt;0123.4"), 1, 1, 1, 3, 1103527590);
        runsAre(Check.tray("0.1234;tttot;0312.4"), 1, 1, 3, 6, 1103527590);
        // Seed 0 goes to 12345, which is 0 by 65536: the least one.
        runsAre(Check.tray("0.1234;httot;.01234"), 1, 0, 2, 6, 12345);
    }

    private static void runsOfLikeNumbers() {
        PushTray x = Check.tray("01234.;nnnnn;01234.");
        runsAre(x, 1, 0, 0, 6, 0);
        runsAre(x, 60, 77, 0, 6, 77);
        runsAre(x, 60, Integer.MAX_VALUE, 0, 6, Integer.MAX_VALUE);
        // With one choice a draw is still made.
        PushTray one = Check.tray("01234.;nnhnn;01234.");
        runsAre(one, 1, 0, 2, 4, 12345);
        long seed = Integer.MAX_VALUE;
        for (int time = 0; time < 60; time++) {
            seed = (1103515245L * seed + 12345L) & 0x7fffffffL;
        }
        runsAre(one, 60, Integer.MAX_VALUE, 120, 6, (int) seed);
    }
}
