/** Promises 13 to 18: least, reach, home, swaps, cheap, odds. */
final class CostsTest {
    /** Tiles 3 and 4 are nailed in cells 2 and 5; the others go round in cells 0, 1, 4, 3: twelve ways in a ring. */
    private static final String RING = "2.3104;tttnn;";
    private static final String HALF_ROUND = "013.24";

    private CostsTest() {
    }

    public static void main(String[] args) {
        least();
        leastWithPrices();
        leastNone();
        reach();
        home();
        swaps();
        cheap();
        cheapNone();
        odds();
        oddsWithoutChoice();
        Check.end();
    }

    private static void leastIs(String text, int cost, int first, int pushes) {
        leastIs(text, Check.tray(text), cost, first, pushes);
    }

    private static void leastIs(String call, PushTray x, int cost, int first, int pushes) {
        Check.due("least(0) of " + call, x.least(0), cost);
        Check.due("least(1) of " + call, x.least(1), first);
        Check.due("least(2) of " + call, x.least(2), pushes);
    }

    private static void least() {
        leastIs("01.234;ttttt;01.234", 0, -1, 0);
        leastIs("01.234;ttttt;0.1234", 1, 1, 1);
        leastIs("0123.4;ttttt;01234.", 1, 4, 1);
        leastIs("01.234;ttttt;01423.", 1, 4, 1);
        // Both ways round cost six: tile 0 is less than tile 2, which is in a lesser cell.
        leastIs(RING + HALF_ROUND, 6, 0, 6);
    }

    private static void leastWithPrices() {
        leastIs("01.234;tttth;01423.", 2, 4, 1);
        leastIs("01.234;tttto;01423.", 3, 4, 1);
        // Tiles 0, 1, 2 and 0 again.
        leastIs("2.3104;tttnn;0.3214", 4, 0, 4);
        leastIs("2.3104;tthnn;0.3214", 5, 0, 4);
        leastIs("2.3104;ottnn;0.3214", 8, 0, 4);
        PushTray x = Check.tray("2.3104;tttnn;" + HALF_ROUND);
        Check.due("a push off the tie", x.push(2), 1);
        leastIs("one way round, now shorter", x, 5, 1, 5);
    }

    private static void leastNone() {
        leastIs("01.234;ttttt;10.234", -1, -1, -1);
        leastIs("01.234;nnnnn;01423.", -1, -1, -1);
        // A shy one never comes from row to row.
        leastIs("01.234;tttts;01423.", -1, -1, -1);
    }

    private static void reachIs(String text, int many, int far) {
        PushTray x = Check.tray(text);
        Check.due("reach(0) of " + text, x.reach(0), many);
        Check.due("reach(1) of " + text, x.reach(1), far);
    }

    private static void reach() {
        // The first search of all, from the lay and with the kinds that have the number 0.
        reachIs("01234.;ttttt;01234.", 360, 21);
        reachIs("01.234;nnnnn;01.234", 1, 0);
        reachIs("01.234;ttttt;01.234", 360, 21);
        reachIs(RING + HALF_ROUND, 12, 6);
        // Each of the three tiles goes four times in a whole round: that is 4 * (3 + 1 + 1) of cost.
        reachIs("2.3104;ottnn;" + HALF_ROUND, 12, 10);
        reachIs("0.1234;ssnnn;0.1234", 3, 1);
        PushTray x = Check.tray("0.1234;ssnnn;0.1234");
        x.push(0);
        Check.due("reach(0) from the end", x.reach(0), 3);
        Check.due("reach(1) from the end", x.reach(1), 2);
    }

    private static void home() {
        PushTray x = Check.tray("2.3104;otnnt;" + HALF_ROUND);
        Check.due("home where it is", x.home(0, 4), 0);
        Check.due("home of a nailed one where it is", x.home(2, 0), 0);
        Check.due("home of a nailed one elsewhere", x.home(2, 1), PushTray.NONE);
        Check.due("home of a stone above", x.home(0, 1), 3);
        Check.due("home of a tile behind it", x.home(1, 4), 3 + 1);
        Check.due("home of the other tile behind it", x.home(4, 4), 3 + 1);
        Check.due("home of a tile where it cannot come", x.home(1, 2), PushTray.NONE);
        PushTray shy = Check.tray("01.234;ttttt;01.234");
        Check.due("home before", shy.home(4, 2), 1);
        shy.recast(4, 3);
        Check.due("home when shy", shy.home(4, 2), PushTray.NONE);
    }

    private static void swapsIs(String text, int want) {
        Check.due("swaps() of " + text, Check.tray(text).swaps(), want);
    }

    private static void swaps() {
        swapsIs("01234.;nnnnn;01234.", 0);
        swapsIs("01234.;nnnnn;0123.4", 1);
        swapsIs("01234.;nnnnn;1032.4", 3);
        swapsIs("01234.;nnnnn;1203.4", 3);
        swapsIs("01234.;nnnnn;12034.", 2);
        swapsIs("01234.;nnnnn;1234.0", 5);
        swapsIs("12.340;nnnnn;01234.", 3);
        swapsIs(".43210;nnnnn;01234.", 3);
    }

    private static void cheapIs(String text, int which, int cost) {
        PushTray x = Check.tray(text);
        Check.due("cheap(0) of " + text, x.cheap(0), which);
        Check.due("cheap(1) of " + text, x.cheap(1), cost);
        Check.due("cheaps of " + text, x.count(9), 2);
        Check.liesAs("cheap changes nothing of " + text, x, 0, text.substring(0, 6));
    }

    private static void cheap() {
        cheapIs("01.234;ttttt;10.234", 1, 0);
        cheapIs("01.234;nnnnn;01423.", 25, 0);
        cheapIs("01.234;nnnnn;04.231", 15, 0);
        // It lies as in the goal, and one exchange has to be made: of those that one push takes back, the least.
        cheapIs("01.234;ttttt;01.234", 12, 1);
        cheapIs("01.234;tottt;01.234", 25, 1);
        cheapIs("01.234;thttt;01.234", 25, 1);
        cheapIs("01.234;thtth;01.234", 12, 2);
        cheapIs("102.34;tttnn;012.34", 1, 0);
        // One exchange does not do it alone: a heavy one is to be pushed behind it.
        cheapIs("102.34;tttht;0123.4", 1, 2);
    }

    private static void cheapNone() {
        cheapIs("01.234;nnnnn;10.243", -1, -1);
        cheapIs("01.234;nnnnn;01.234", -1, -1);
    }

    private static void oddsAre(PushTray x, int tile, int cell, int pushes, int above, int below) {
        String call = "odds(" + tile + ", " + cell + ", " + pushes + ", ";
        Check.due(call + "0)", x.odds(tile, cell, pushes, 0), above);
        Check.due(call + "1)", x.odds(tile, cell, pushes, 1), below);
    }

    private static void odds() {
        PushTray x = Check.tray(RING + HALF_ROUND);
        oddsAre(x, 2, 0, 1, 1, 2);
        oddsAre(x, 2, 1, 1, 1, 2);
        oddsAre(x, 2, 4, 1, 0, 1);
        // Of four ways of two pushes one leaves tile 2 in cell 1.
        oddsAre(x, 2, 1, 2, 1, 4);
        oddsAre(x, 2, 0, 2, 3, 4);
        oddsAre(x, 3, 2, 6, 1, 1);
        oddsAre(x, 1, 3, 1, 1, 1);
        // In the middle there are three ways at first: two leave tile 0 alone, by the third it is back in one of three.
        PushTray middle = Check.tray("2.1304;ttttt;2.1304");
        oddsAre(middle, 2, 1, 1, 1, 3);
        oddsAre(middle, 0, 1, 1, 1, 3);
        oddsAre(middle, 3, 3, 1, 1, 1);
        oddsAre(middle, 0, 4, 2, 3 + 3 + 1, 9);
    }

    private static void oddsWithoutChoice() {
        PushTray x = Check.tray("01.234;nnnnn;01.234");
        oddsAre(x, 4, 5, 1, 1, 1);
        oddsAre(x, 4, 5, 6, 1, 1);
        oddsAre(x, 4, 2, 6, 0, 1);
        PushTray one = Check.tray("01.234;nhnnn;01.234");
        oddsAre(one, 1, 2, 1, 1, 1);
        oddsAre(one, 1, 2, 2, 0, 1);
        oddsAre(one, 1, 2, 5, 1, 1);
    }
}
