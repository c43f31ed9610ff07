/** Each sentence of promises 19 to 21. */
final class DocSeenTest {
    private static final String TEXT = "01.234;thnso;0123.4";

    private DocSeenTest() {
    }

    public static void main(String[] args) {
        see();
        seeUnknown();
        seeOutside();
        seeFull();
        forget();
        runs();
        runsRefused();
        Doc.promisesAreHeld(19, 21);
        Check.end();
    }

    private static void see() {
        Doc.promise(19, "It is SEEN: how much is.");
        PushTray x = Check.tray(TEXT);
        Check.due("see(1, 1, 0)", x.see(1, 1, 0), 1);
        Check.due("see(0, 0, 2)", x.see(0, 0, 2), 2);
        Check.due("see(1, 0, 1)", x.see(1, 0, 1), 3);
        Check.due("seen", x.count(6), 3);
        Check.due("sorts of tile 0: heavy", x.tile(0, 4), 2);
        Check.due("sorts of tile 1: shy", x.tile(1, 4), 8);
    }

    private static void seeUnknown() {
        Doc.promise(19, "UNKNOWN: tile (also without a TRAY)");
        PushTray x = Check.tray(TEXT);
        Check.due("see(5, 0, 0)", x.see(5, 0, 0), PushTray.UNKNOWN);
        Check.due("see(-1, 2, 4)", x.see(-1, 2, 4), PushTray.UNKNOWN);
        Check.due("see(0, 0, 0) without a tray", new PushTray().see(0, 0, 0), PushTray.UNKNOWN);
        Check.due("seen", x.count(6), 0);
    }

    private static void seeOutside() {
        Doc.promise(19, "OUTSIDE: way (0, 1), cost (0 to 3)");
        PushTray x = Check.tray(TEXT);
        Check.due("see(0, 2, 0)", x.see(0, 2, 0), PushTray.OUTSIDE);
        Check.due("see(0, -1, 0)", x.see(0, -1, 0), PushTray.OUTSIDE);
        Check.due("see(0, 0, 4)", x.see(0, 0, 4), PushTray.OUTSIDE);
        Check.due("see(0, 1, -1)", x.see(0, 1, -1), PushTray.OUTSIDE);
        Check.due("see(0, 0, 0)", x.see(0, 0, 0), 1);
        Check.due("see(0, 1, 3)", x.see(0, 1, 3), 2);
    }

    private static void seeFull() {
        Doc.promise(19, "FULL");
        PushTray x = Check.tray(TEXT);
        for (int seen = 1; seen <= 6; seen++) {
            Check.due("see " + seen, x.see(seen % 5, 0, 1), seen);
        }
        Check.due("see 7", x.see(0, 0, 2), PushTray.FULL);
        Check.due("see 7, outside", x.see(0, 0, 4), PushTray.OUTSIDE);
        Check.due("seen", x.count(6), 6);
        Check.due("sorts of tile 0", x.tile(0, 4), 1 + 8);
    }

    private static void forget() {
        Doc.promise(20, "Nothing is SEEN any more: how much was.");
        PushTray x = Check.tray(TEXT);
        x.see(1, 1, 0);
        x.see(0, 0, 2);
        Check.due("forget()", x.forget(), 2);
        Check.due("seen", x.count(6), 0);
        Check.due("sorts of tile 1", x.tile(1, 4), 31);
        Check.due("forget() of nothing", x.forget(), 0);
        Check.due("forget() without a tray", new PushTray().forget(), 0);
    }

    /**
     * From seed 0 come 12345, 1406932606, 654583775; by 65536 these are 0, 21468, 9988. So the first of three (tile 0)
     * goes, the first of two (tile 0 again), and the second of three (tile 1, which is heavy).
     */
    private static void runs() {
        Doc.promise(21, "RUNS: what = 0 how much, 1 how many CELLS, 2 the SEED then.");
        PushTray x = Check.tray("0.1234;thtoo;0.1234");
        int[][] due = {{1, 4, 12345}, {2, 6, 1406932606}, {4, 4, 654583775}};
        for (int times = 1; times <= 3; times++) {
            for (int what = 0; what <= 2; what++) {
                Check.due("runs(" + times + ", 0, " + what + ")", x.runs(times, 0, what), due[times - 1][what]);
            }
        }
        Check.due("runs(2, 12345, 2), from the second seed on", x.runs(2, 12345, 2), 654583775);
    }

    private static void runsRefused() {
        Doc.promise(21, "OUTSIDE: times (1 to 60), seed (0 at least), what; STATE: no TRAY.");
        PushTray x = Check.tray("01.234;nnnnn;0123.4");
        Check.due("runs(0, 0, 0)", x.runs(0, 0, 0), PushTray.OUTSIDE);
        Check.due("runs(61, 0, 0)", x.runs(61, 0, 0), PushTray.OUTSIDE);
        Check.due("runs(1, -1, 0)", x.runs(1, -1, 0), PushTray.OUTSIDE);
        Check.due("runs(1, 0, 3)", x.runs(1, 0, 3), PushTray.OUTSIDE);
        Check.due("runs(1, 0, -1)", x.runs(1, 0, -1), PushTray.OUTSIDE);
        Check.due("runs(1, 0, 2)", x.runs(1, 0, 2), 0);
        Check.due("runs(60, 2147483647, 2)", x.runs(60, 2147483647, 2), 2147483647);
        Check.due("runs(1, 0, 0) without a tray", new PushTray().runs(1, 0, 0), PushTray.STATE);
        Check.due("runs(61, 0, 0) without a tray", new PushTray().runs(61, 0, 0), PushTray.OUTSIDE);
    }
}
