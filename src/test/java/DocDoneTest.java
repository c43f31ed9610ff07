/** Each sentence of promises 9 to 12. */
final class DocDoneTest {
    /** Tile 1, heavy, is west of the free cell, and tile 4, a stone, below it; tile 2 is nailed in cell 3. */
    private static final String TEXT = "01.234;thnso;4123.0";

    private DocDoneTest() {
    }

    public static void main(String[] args) {
        pushCosts();
        pushUnknown();
        pushState();
        pushFull();
        exchange();
        exchangeUnknown();
        aim();
        aimUnknown();
        recast();
        recastRefused();
        Doc.promisesAreHeld(9, 12);
        Check.end();
    }

    private static void pushCosts() {
        Doc.promise(9, "A TILE is PUSHED: what it COSTS.");
        PushTray x = Check.tray(TEXT);
        Check.due("push(4), a stone", x.push(4), 3);
        Check.liesAs("push(4)", x, 0, "01423.");
        Check.due("push(3), a shy one in its row", x.push(3), 1);
        Check.liesAs("push(3)", x, 0, "0142.3");
        Check.due("push(1), a heavy one", x.push(1), 2);
        Check.liesAs("push(1)", x, 0, "0.4213");
        Check.due("push(0), a plain one", x.push(0), 1);
        Check.liesAs("push(0)", x, 0, ".04213");
        Check.due("pushes", x.count(2), 4);
        Check.due("costs", x.count(3), 7);
    }

    private static void pushUnknown() {
        Doc.promise(9, "UNKNOWN (also without a TRAY)");
        PushTray x = Check.tray(TEXT);
        Check.due("push(5)", x.push(5), PushTray.UNKNOWN);
        Check.due("push(-1)", x.push(-1), PushTray.UNKNOWN);
        Check.due("push(0) without a tray", new PushTray().push(0), PushTray.UNKNOWN);
    }

    private static void pushState() {
        Doc.promise(9, "STATE: it cannot be");
        PushTray x = Check.tray(TEXT);
        Check.due("push(0), which is not next to the free cell", x.push(0), PushTray.STATE);
        x.exchange(3, 5);
        Check.due("push(2), which is nailed below it", x.push(2), PushTray.STATE);
        x.exchange(4, 5);
        Check.due("push(3), which is shy, below it", x.push(3), PushTray.STATE);
        Check.liesAs("pushes that cannot be", x, 0, "01.423");
        Check.due("pushes", x.count(2), 0);
    }

    /** Beyond the 512 calls that the document speaks of: so many pushes can't be met within them. */
    private static void pushFull() {
        Doc.promise(9, "FULL: 999 were");
        PushTray x = Check.tray(TEXT);
        for (int pushes = 1; pushes <= 999; pushes++) {
            Check.due("push " + pushes, x.push(4), 3);
        }
        Check.due("push 1000", x.push(4), PushTray.FULL);
    }

    private static void exchange() {
        Doc.promise(10, "What is in two CELLS is EXCHANGED: where it is FREE.");
        PushTray x = Check.tray(TEXT);
        Check.due("exchange(0, 3), one of them nailed", x.exchange(0, 3), 2);
        Check.liesAs("exchange(0, 3)", x, 0, "21.034");
        Check.due("exchange(4, 2), one of them free", x.exchange(4, 2), 4);
        Check.liesAs("exchange(4, 2)", x, 0, "2130.4");
        Check.liesAs("the goal", x, 1, "4123.0");
    }

    private static void exchangeUnknown() {
        Doc.promise(10, "UNKNOWN: a, b (also without a TRAY), or they are the same.");
        PushTray x = Check.tray(TEXT);
        Check.due("exchange(6, 0)", x.exchange(6, 0), PushTray.UNKNOWN);
        Check.due("exchange(0, -1)", x.exchange(0, -1), PushTray.UNKNOWN);
        Check.due("exchange(2, 2)", x.exchange(2, 2), PushTray.UNKNOWN);
        Check.due("exchange(0, 1) without a tray", new PushTray().exchange(0, 1), PushTray.UNKNOWN);
        Check.liesAs("exchanges of nothing", x, 0, "01.234");
    }

    private static void aim() {
        Doc.promise(11, "In the GOAL what is in two CELLS is EXCHANGED: where it is FREE in it.");
        PushTray x = Check.tray(TEXT);
        Check.due("aim(0, 3)", x.aim(0, 3), 4);
        Check.liesAs("aim(0, 3)", x, 1, "3124.0");
        Check.due("aim(4, 2)", x.aim(4, 2), 2);
        Check.liesAs("aim(4, 2)", x, 1, "31.420");
        Check.liesAs("what lies now", x, 0, "01.234");
    }

    private static void aimUnknown() {
        Doc.promise(11, "UNKNOWN: as above.");
        PushTray x = Check.tray(TEXT);
        Check.due("aim(6, 0)", x.aim(6, 0), PushTray.UNKNOWN);
        Check.due("aim(0, -1)", x.aim(0, -1), PushTray.UNKNOWN);
        Check.due("aim(2, 2)", x.aim(2, 2), PushTray.UNKNOWN);
        Check.due("aim(0, 1) without a tray", new PushTray().aim(0, 1), PushTray.UNKNOWN);
        Check.liesAs("aims at nothing", x, 1, "4123.0");
    }

    private static void recast() {
        Doc.promise(12, "A TILE is of another KIND: of which it was.");
        PushTray x = Check.tray(TEXT);
        Check.due("recast(2, 4)", x.recast(2, 4), 2);
        Check.due("kind of tile 2", x.tile(2, 0), 4);
        Check.due("recast(2, 1)", x.recast(2, 1), 4);
        Check.due("recast(4, 0)", x.recast(4, 0), 4);
        Check.due("push(4), plain now", x.push(4), 1);
    }

    private static void recastRefused() {
        Doc.promise(12, "UNKNOWN (also without a TRAY)");
        Doc.promise(12, "OUTSIDE: kind (0 to 4)");
        PushTray x = Check.tray(TEXT);
        Check.due("recast(5, 0)", x.recast(5, 0), PushTray.UNKNOWN);
        Check.due("recast(-1, 0)", x.recast(-1, 0), PushTray.UNKNOWN);
        Check.due("recast(0, 0) without a tray", new PushTray().recast(0, 0), PushTray.UNKNOWN);
        Check.due("recast(0, 5)", x.recast(0, 5), PushTray.OUTSIDE);
        Check.due("recast(0, -1)", x.recast(0, -1), PushTray.OUTSIDE);
        Check.due("recast(5, 5)", x.recast(5, 5), PushTray.UNKNOWN);
        Check.due("kind of tile 0", x.tile(0, 0), 0);
    }
}
