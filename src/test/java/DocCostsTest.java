/** Each sentence of promises 13 to 18. */
final class DocCostsTest {
    /**
     * A stone above the free cell; beside it a shy one and a heavy one in the lower row; else nailed ones. So all lies
     * in one of four ways: this one, the stone below (3), the shy one gone west (1), the heavy one behind it (3).
     */
    private static final String FOUR_WAYS = "012.34;onnsh;012.34";

    private DocCostsTest() {
    }

    public static void main(String[] args) {
        leastCost();
        leastFirst();
        leastMany();
        leastRefused();
        reachMany();
        reachFar();
        reachRefused();
        home();
        homeUnknown();
        swaps();
        swapsState();
        cheap();
        cheapRefused();
        odds();
        oddsUnknown();
        oddsOutside();
        Doc.promisesAreHeld(13, 18);
        Check.end();
    }

    private static void leastIs(String text, int what, int due) {
        Check.due("least(" + what + ") of " + text, Check.tray(text).least(what), due);
    }

    private static void leastCost() {
        Doc.promise(13, "LEAST: what = 0 how much");
        leastIs("01.234;otttt;.01234", 0, 1 + 3);
        leastIs("01.234;otttt;01.234", 0, 0);
        leastIs("01.234;otttt;10.234", 0, PushTray.NONE);
    }

    private static void leastFirst() {
        Doc.promise(13, "1 which first (NONE)");
        leastIs("01.234;otttt;.01234", 1, 1);
        leastIs("01.234;otttt;01.234", 1, PushTray.NONE);
        leastIs("01.234;otttt;10.234", 1, PushTray.NONE);
    }

    /** The last ones: ways that are as cheap take 17 to 21 and 18 to 22 pushes, as a search in another language tells. */
    private static void leastMany() {
        Doc.promise(13, "2 how many; NONE");
        leastIs("01.234;otttt;.01234", 2, 2);
        leastIs("01.234;otttt;01.234", 2, 0);
        leastIs("01.234;otttt;10.234", 2, PushTray.NONE);
        leastIs("3.4210;thtto;3201.4", 2, 19);
        leastIs("1032.4;httto;.04213", 2, 20);
    }

    private static void leastRefused() {
        Doc.promise(13, "OUTSIDE; STATE: no TRAY");
        PushTray x = Check.tray(FOUR_WAYS);
        Check.due("least(3)", x.least(3), PushTray.OUTSIDE);
        Check.due("least(-1)", x.least(-1), PushTray.OUTSIDE);
        Check.due("least(0) without a tray", new PushTray().least(0), PushTray.STATE);
        Check.due("least(3) without a tray", new PushTray().least(3), PushTray.OUTSIDE);
    }

    private static void reachMany() {
        Doc.promise(14, "what = 0 REACH");
        PushTray x = Check.tray(FOUR_WAYS);
        Check.due("reach(0)", x.reach(0), 4);
        x.recast(0, 3);
        Check.due("reach(0) when tile 0 is shy", x.reach(0), 3);
        x.recast(3, 2);
        Check.due("reach(0) when nothing goes", x.reach(0), 1);
    }

    private static void reachFar() {
        Doc.promise(14, "1 FAR");
        PushTray x = Check.tray(FOUR_WAYS);
        Check.due("reach(1)", x.reach(1), 3);
        x.push(0);
        Check.due("reach(1) when the stone is below", x.reach(1), 3 + 1 + 2);
        PushTray none = Check.tray("012.34;nnnnn;012.34");
        Check.due("reach(1) when nothing goes", none.reach(1), 0);
    }

    private static void reachRefused() {
        Doc.promise(14, "OUTSIDE; STATE: no TRAY");
        PushTray x = Check.tray(FOUR_WAYS);
        Check.due("reach(2)", x.reach(2), PushTray.OUTSIDE);
        Check.due("reach(-1)", x.reach(-1), PushTray.OUTSIDE);
        Check.due("reach(0) without a tray", new PushTray().reach(0), PushTray.STATE);
        Check.due("reach(2) without a tray", new PushTray().reach(2), PushTray.OUTSIDE);
    }

    private static void home() {
        Doc.promise(15, "HOME; NONE.");
        PushTray x = Check.tray(FOUR_WAYS);
        Check.due("home(0, 0), where it is", x.home(0, 0), 0);
        Check.due("home(0, 3)", x.home(0, 3), 3);
        Check.due("home(3, 3)", x.home(3, 3), 1);
        Check.due("home(4, 4)", x.home(4, 4), 1 + 2);
        Check.due("home(4, 3)", x.home(4, 3), PushTray.NONE);
        Check.due("home(0, 4)", x.home(0, 4), PushTray.NONE);
        Check.due("home(1, 0)", x.home(1, 0), PushTray.NONE);
        x.push(0);
        Check.due("home(4, 4) when the stone is below", x.home(4, 4), 3 + 1 + 2);
    }

    private static void homeUnknown() {
        Doc.promise(15, "UNKNOWN: tile, cell (also without a TRAY).");
        PushTray x = Check.tray(FOUR_WAYS);
        Check.due("home(5, 0)", x.home(5, 0), PushTray.UNKNOWN);
        Check.due("home(-1, 0)", x.home(-1, 0), PushTray.UNKNOWN);
        Check.due("home(0, 6)", x.home(0, 6), PushTray.UNKNOWN);
        Check.due("home(0, -1)", x.home(0, -1), PushTray.UNKNOWN);
        Check.due("home(0, 0) without a tray", new PushTray().home(0, 0), PushTray.UNKNOWN);
    }

    private static void swapsAre(String text, int due) {
        Check.due("swaps() of " + text, Check.tray(text).swaps(), due);
    }

    private static void swaps() {
        Doc.promise(16, "SWAPS.");
        swapsAre("01234.;nnnnn;01234.", 0);
        swapsAre("01234.;nnnnn;04231.", 1);
        swapsAre("01234.;nnnnn;12034.", 2);
        swapsAre("01234.;nnnnn;1032.4", 3);
        swapsAre("01234.;nnnnn;1203.4", 3);
        swapsAre("01234.;nnnnn;.01234", 5);
    }

    private static void swapsState() {
        Doc.promise(16, "STATE: no TRAY.");
        Check.due("swaps() without a tray", new PushTray().swaps(), PushTray.STATE);
    }

    private static void cheapIs(String text, int which, int cost) {
        PushTray x = Check.tray(text);
        Check.due("cheap(0) of " + text, x.cheap(0), which);
        Check.due("cheap(1) of " + text, x.cheap(1), cost);
    }

    private static void cheap() {
        Doc.promise(17, "CHEAP: what = 0 which, 1 how much; NONE.");
        cheapIs("012.34;nnnnn;042.31", 15, 0);
        // Tiles 0 and 1 change places, and the heavy one is pushed behind that.
        cheapIs("102.34;tttht;0123.4", 1, 2);
        cheapIs("012.34;nnnnn;012.34", PushTray.NONE, PushTray.NONE);
    }

    private static void cheapRefused() {
        Doc.promise(17, "OUTSIDE; STATE: no TRAY, or cheap() was done 20 times ever "
            + "(it counts on, whatever is read or restored).");
        Check.due("cheap(0) without a tray", new PushTray().cheap(0), PushTray.STATE);
        Check.due("cheap(2) without a tray", new PushTray().cheap(2), PushTray.OUTSIDE);
        PushTray x = Check.tray(FOUR_WAYS);
        x.image();
        Check.due("cheap(-1)", x.cheap(-1), PushTray.OUTSIDE);
        for (int done = 1; done <= 10; done++) {
            Check.isTrue("cheap " + done + " is done", x.cheap(0) >= PushTray.NONE);
            x.restore();
        }
        Check.write(x, FOUR_WAYS);
        x.tray();
        for (int done = 11; done <= 20; done++) {
            Check.isTrue("cheap " + done + " is done", x.cheap(1) >= PushTray.NONE);
        }
        Check.due("cheap 21", x.cheap(0), PushTray.STATE);
        Check.due("cheap 21, outside", x.cheap(2), PushTray.OUTSIDE);
    }

    private static void oddsAre(PushTray x, int tile, int cell, int pushes, int above, int below) {
        String call = "odds(" + tile + ", " + cell + ", " + pushes + ", ";
        Check.due(call + "0)", x.odds(tile, cell, pushes, 0), above);
        Check.due(call + "1)", x.odds(tile, cell, pushes, 1), below);
    }

    private static void odds() {
        Doc.promise(18, "ODDS: what = 0 above, 1 below, in lowest terms (0 of 1).");
        PushTray x = Check.tray("01.234;ttttt;01.234");
        oddsAre(x, 1, 2, 1, 1, 2);
        oddsAre(x, 1, 5, 1, 0, 1);
        oddsAre(x, 2, 3, 1, 1, 1);
        // If tile 1 went first (one of two), it is back by one of three; else it can't have gone: 1/6 and 3/6.
        oddsAre(x, 1, 1, 2, 2, 3);
    }

    private static void oddsUnknown() {
        Doc.promise(18, "UNKNOWN: tile, cell (also without a TRAY)");
        PushTray x = Check.tray(FOUR_WAYS);
        Check.due("odds(5, 0, 1, 0)", x.odds(5, 0, 1, 0), PushTray.UNKNOWN);
        Check.due("odds(-1, 0, 1, 0)", x.odds(-1, 0, 1, 0), PushTray.UNKNOWN);
        Check.due("odds(0, 6, 1, 0)", x.odds(0, 6, 1, 0), PushTray.UNKNOWN);
        Check.due("odds(0, -1, 7, 2)", x.odds(0, -1, 7, 2), PushTray.UNKNOWN);
        Check.due("odds(0, 0, 1, 0) without a tray", new PushTray().odds(0, 0, 1, 0), PushTray.UNKNOWN);
    }

    private static void oddsOutside() {
        Doc.promise(18, "OUTSIDE: pushes (1 to 6), what");
        PushTray x = Check.tray(FOUR_WAYS);
        Check.due("odds(0, 0, 0, 0)", x.odds(0, 0, 0, 0), PushTray.OUTSIDE);
        Check.due("odds(0, 0, 7, 0)", x.odds(0, 0, 7, 0), PushTray.OUTSIDE);
        Check.due("odds(0, 0, 1, -1)", x.odds(0, 0, 1, -1), PushTray.OUTSIDE);
        Check.due("odds(0, 0, 6, 2)", x.odds(0, 0, 6, 2), PushTray.OUTSIDE);
        Check.due("odds(1, 1, 6, 1)", x.odds(1, 1, 6, 1), 1);
    }
}
