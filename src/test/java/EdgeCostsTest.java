import java.math.BigInteger;

/** The boundaries of promises 13 to 18: nothing to do, nothing that can be done, the farthest of all, and what is refused. */
final class EdgeCostsTest {
    private EdgeCostsTest() {
    }

    public static void main(String[] args) {
        leastAndReachRefused();
        leastOfNoPush();
        leastOfNone();
        leastOfMany();
        leastOfLikeTiles();
        reach();
        homeRefused();
        home();
        swapsRefused();
        swaps();
        cheapRefused();
        cheapTwentyTimesEver();
        cheapOfEachPair();
        cheapOfLikeOnes();
        cheapOfNone();
        oddsUnknown();
        oddsOutside();
        oddsOfNoChoice();
        oddsOfTheFirstAndTheLast();
        oddsInLowestTerms();
        Check.end();
    }

    // ---- 13, 14: "OUTSIDE; STATE: no TRAY", and "0: it does", "none"

    private static void leastAndReachRefused() {
        for (int what : Edges.beyond(0, 2)) {
            Edges.refused("least(" + what + ")", x -> x.least(what), PushTray.OUTSIDE, Edges.ALL);
        }
        for (int what : Edges.beyond(0, 1)) {
            Edges.refused("reach(" + what + ")", x -> x.reach(what), PushTray.OUTSIDE, Edges.ALL);
        }
        Edges.refused("least(0)", x -> x.least(0), PushTray.STATE, Edges.WITHOUT_TRAY);
        Edges.refused("least(1)", x -> x.least(1), PushTray.STATE, Edges.WITHOUT_TRAY);
        Edges.refused("least(2)", x -> x.least(2), PushTray.STATE, Edges.WITHOUT_TRAY);
        Edges.refused("reach(0)", x -> x.reach(0), PushTray.STATE, Edges.WITHOUT_TRAY);
        Edges.refused("reach(1)", x -> x.reach(1), PushTray.STATE, Edges.WITHOUT_TRAY);
    }

    private static void leastIs(String call, PushTray x, int cost, int first, int pushes) {
        Check.due("least(0) of " + call, x.least(0), cost);
        Check.due("least(1) of " + call, x.least(1), first);
        Check.due("least(2) of " + call, x.least(2), pushes);
    }

    private static void leastIs(String text, int cost, int first, int pushes) {
        leastIs(text, Check.tray(text), cost, first, pushes);
    }

    /** All lies as in the goal, wherever it is free and whatever could go; or it is brought to by each call that can. */
    private static void leastOfNoPush() {
        String[] lies = {".43210", "4.3210", "43.210", "432.10", "4321.0", "43210."};
        String[] kinds = {"ttttt", "nnnnn", "ooooo", "sssss", "thnso"};
        for (String each : lies) {
            for (String kind : kinds) {
                leastIs(each + ";" + kind + ";" + each, 0, PushTray.NONE, 0);
            }
        }
        PushTray x = Check.tray("01.234;ttttt;01423.");
        leastIs("one push before the goal", x, 1, 4, 1);
        x.push(4);
        leastIs("a push to the goal", x, 0, PushTray.NONE, 0);
        x.push(4);
        x.exchange(2, 5);
        leastIs("an exchange to the goal", x, 0, PushTray.NONE, 0);
        x.push(4);
        x.aim(5, 2);
        leastIs("the goal brought here", x, 0, PushTray.NONE, 0);
    }

    private static void leastOfNone() {
        leastIs("01.234;nnnnn;01423.", PushTray.NONE, PushTray.NONE, PushTray.NONE);
        leastIs("01.234;ttttt;10.234", PushTray.NONE, PushTray.NONE, PushTray.NONE);
        leastIs("01.234;sssss;01423.", PushTray.NONE, PushTray.NONE, PushTray.NONE);
        leastIs("01.234;tnttn;10.234", PushTray.NONE, PushTray.NONE, PushTray.NONE);
        PushTray x = Check.tray("01.234;tttts;01423.");
        leastIs("a shy one below", x, PushTray.NONE, PushTray.NONE, PushTray.NONE);
        x.recast(4, 4);
        leastIs("a stone below", x, 3, 4, 1);
        x.recast(4, 2);
        leastIs("a nailed one below", x, PushTray.NONE, PushTray.NONE, PushTray.NONE);
    }

    /** The dearest goal that any tray has, 26 pushes of stones and 6 of a shy one, and one that is as many plain ones off. */
    private static void leastOfMany() {
        leastIs("410.32;oooos;01423.", 84, 3, 32);
        PushTray x = Check.tray("120.43;hsttt;02134.");
        Check.due("least(2) of the most pushes", x.least(2), 32);
        for (int left = 32; left > 0; left--) {
            Check.due("least(2) with " + left + " to go", x.least(2), left);
            x.push(x.least(1));
        }
        leastIs("all of them pushed", x, 0, PushTray.NONE, 0);
    }

    /** Both ways round a ring are as dear: tile 0 is less than tile 2, in the greater cell and in the lesser one. */
    private static void leastOfLikeTiles() {
        leastIs("2.3104;tttnn;013.24", 6, 0, 6);
        leastIs("0.3124;tttnn;213.04", 6, 0, 6);
        leastIs("0.3124;ttonn;213.04", 10, 0, 6);
    }

    private static void reachIs(String text, int many, int far) {
        PushTray x = Check.tray(text);
        Check.due("reach(0) of " + text, x.reach(0), many);
        Check.due("reach(1) of " + text, x.reach(1), far);
    }

    /** "this one with them": one, if nothing goes; then one tile; then all tiles, the dearest too. */
    private static void reach() {
        reachIs("01.234;nnnnn;.01234", 1, 0);
        reachIs("01.234;tnttn;.01234", 1, 0);
        reachIs("0123.4;nnnnt;.01234", 2, 1);
        reachIs("0123.4;nnnno;.01234", 2, 3);
        reachIs("0123.4;nnnns;.01234", 2, 1);
        reachIs("012.34;tnnss;.01234", 4, 2);
        reachIs("01234.;ttttt;01234.", 360, 21);
        reachIs("01234.;hhhhh;10234.", 360, 42);
        reachIs("01234.;ooooo;01234.", 360, 63);
        reachIs(".01423;oooos;.01423", 180, 84);
    }

    // ---- 15: "UNKNOWN: tile, cell (also without a TRAY)"

    private static void homeRefused() {
        for (int tile : Edges.beyond(0, 4)) {
            Edges.refused("home(" + tile + ", 0)", x -> x.home(tile, 0), PushTray.UNKNOWN, Edges.ALL);
            Edges.refused("home(" + tile + ", 5)", x -> x.home(tile, 5), PushTray.UNKNOWN, Edges.ALL);
        }
        for (int cell : Edges.beyond(0, 5)) {
            Edges.refused("home(0, " + cell + ")", x -> x.home(0, cell), PushTray.UNKNOWN, Edges.ALL);
            Edges.refused("home(4, " + cell + ")", x -> x.home(4, cell), PushTray.UNKNOWN, Edges.ALL);
            Edges.refused("home(-1, " + cell + ")", x -> x.home(-1, cell), PushTray.UNKNOWN, Edges.ALL);
        }
        Edges.refused("home(0, 0)", x -> x.home(0, 0), PushTray.UNKNOWN, Edges.WITHOUT_TRAY);
        Edges.refused("home(4, 5)", x -> x.home(4, 5), PushTray.UNKNOWN, Edges.WITHOUT_TRAY);
    }

    private static void homes(String text, int[][] due) {
        PushTray x = Check.tray(text);
        for (int tile = 0; tile < 5; tile++) {
            for (int cell = 0; cell < 6; cell++) {
                Check.due("home(" + tile + ", " + cell + ") of " + text, x.home(tile, cell), due[tile][cell]);
            }
        }
    }

    /** It is there already; one push away; never, for one that is nailed, shut in or shy; and the dearest of all. */
    private static void home() {
        homes("0123.4;nnnno;01234.", new int[][] {
            {0, -1, -1, -1, -1, -1},
            {-1, 0, -1, -1, -1, -1},
            {-1, -1, 0, -1, -1, -1},
            {-1, -1, -1, 0, -1, -1},
            {-1, -1, -1, -1, 3, 0},
        });
        homes("012.34;tnnss;.01234", new int[][] {
            {0, -1, -1, 1, -1, -1},
            {-1, 0, -1, -1, -1, -1},
            {-1, -1, 0, -1, -1, -1},
            {-1, -1, -1, 1, 0, -1},
            {-1, -1, -1, -1, 2, 0},
        });
        Check.due("the dearest home", Check.tray(".01234;oooos;.01234").home(1, 3), 52);
    }

    // ---- 16: "STATE: no TRAY"

    private static void swapsRefused() {
        Edges.refused("swaps()", x -> x.swaps(), PushTray.STATE, Edges.WITHOUT_TRAY);
    }

    private static void swapsIs(String text, int want) {
        Check.due("swaps() of " + text, Check.tray(text).swaps(), want);
    }

    /** None at all; one for each pair of cells; and five at most, if all six go round. */
    private static void swaps() {
        swapsIs(".43210;nnnnn;.43210", 0);
        for (int a = 0; a < 6; a++) {
            for (int b = a + 1; b < 6; b++) {
                swapsIs("01.234;nnnnn;" + Edges.swapped("01.234", a, b), 1);
            }
        }
        swapsIs("01234.;nnnnn;10324.", 2);
        swapsIs("01234.;nnnnn;10.324", 3);
        swapsIs("01234.;nnnnn;103.24", 4);
        swapsIs("01234.;nnnnn;12.034", 5);
        swapsIs("01234.;nnnnn;.01234", 5);
        swapsIs("01234.;ttttt;1234.0", 5);
    }

    // ---- 17: "OUTSIDE; STATE: no TRAY, or cheap() was done 20 times ever"

    private static void cheapRefused() {
        for (int what : Edges.beyond(0, 1)) {
            Edges.refused("cheap(" + what + ")", x -> x.cheap(what), PushTray.OUTSIDE, Edges.ALL);
        }
        Edges.refused("cheap(0)", x -> x.cheap(0), PushTray.STATE, Edges.WITHOUT_TRAY);
        Edges.refused("cheap(1)", x -> x.cheap(1), PushTray.STATE, Edges.WITHOUT_TRAY);
        Edges.refused("cheap(0)", x -> x.cheap(0), PushTray.STATE, Edges.Made.FULL);
        Edges.refused("cheap(1)", x -> x.cheap(1), PushTray.STATE, Edges.Made.FULL);
    }

    /** What was refused does not count; what answers NONE does; neither another tray nor the image takes it back. */
    private static void cheapTwentyTimesEver() {
        PushTray x = new PushTray();
        x.cheap(0);
        Check.due("cheaps behind one without a tray", x.count(9), 0);
        Check.write(x, "01.234;ttttt;10.234");
        x.tray();
        x.image();
        x.cheap(2);
        Check.due("cheaps behind one outside", x.count(9), 0);
        for (int done = 1; done <= 9; done++) {
            Check.due("cheap " + done, x.cheap(0), 1);
        }
        x.restore();
        Check.due("cheap 10, behind restore()", x.cheap(1), 0);
        Check.write(x, "01.234;nnnnn;10.243");
        x.tray();
        for (int done = 11; done <= 20; done++) {
            Check.due("cheap " + done + ", which is none", x.cheap(0), PushTray.NONE);
            Check.due("cheaps", x.count(9), done);
        }
        Check.due("cheap 21", x.cheap(0), PushTray.STATE);
        Check.due("cheap 22", x.cheap(1), PushTray.STATE);
        Check.write(x, Edges.TEXT);
        x.tray();
        Check.due("cheap 23, of another tray", x.cheap(0), PushTray.STATE);
        Check.due("cheap 24, outside", x.cheap(2), PushTray.OUTSIDE);
        Check.due("cheaps", x.count(9), 20);
    }

    /** With all nailed only the one exchange to the goal does: from 01 to 45, the lesser cell first. */
    private static void cheapOfEachPair() {
        for (int a = 0; a < 6; a++) {
            for (int b = a + 1; b < 6; b++) {
                PushTray x = Check.tray("01.234;nnnnn;" + Edges.swapped("01.234", a, b));
                Check.due("cheap(0) of " + a + " and " + b, x.cheap(0), 10 * a + b);
                Check.due("cheap(1) of " + a + " and " + b, x.cheap(1), 0);
                Check.liesAs("cheap() of " + a + " and " + b, x, 0, "01.234");
            }
        }
    }

    /** "of like ones the least": of two, where all lies as in the goal, and of three round the middle; none is dearer. */
    private static void cheapOfLikeOnes() {
        String[] texts = {"01.234;ttttt;01.234", "0.1234;ooooo;0.1234", ".01234;ttttt;.01234", "01234.;hhhhh;01234."};
        int[] which = {12, 1, 1, 25};
        int[] cost = {1, 3, 1, 2};
        for (int i = 0; i < texts.length; i++) {
            PushTray x = Check.tray(texts[i]);
            Check.due("cheap(0) of " + texts[i], x.cheap(0), which[i]);
            Check.due("cheap(1) of " + texts[i], x.cheap(1), cost[i]);
        }
    }

    private static void cheapOfNone() {
        PushTray x = Check.tray("01.234;nnnnn;01.234");
        Check.due("cheap(0), when all lies as in the goal and nothing goes", x.cheap(0), PushTray.NONE);
        Check.due("cheap(1), when all lies as in the goal and nothing goes", x.cheap(1), PushTray.NONE);
        PushTray back = Check.tray("01.234;nhnno;01.234");
        Check.due("cheap(0), when one push takes an exchange back", back.cheap(0), 12);
        Check.due("cheap(1), when one push takes an exchange back", back.cheap(1), 2);
    }

    // ---- 18: "UNKNOWN: tile, cell (also without a TRAY); OUTSIDE: pushes (1 to 6), what"

    private static void oddsUnknown() {
        int[] pushes = {0, 1, 6, 7};
        for (int many : pushes) {
            for (int tile : Edges.beyond(0, 4)) {
                Edges.refused("odds(" + tile + ", 0, " + many + ", 0)", x -> x.odds(tile, 0, many, 0), PushTray.UNKNOWN,
                    Edges.ALL);
            }
            for (int cell : Edges.beyond(0, 5)) {
                Edges.refused("odds(4, " + cell + ", " + many + ", 2)", x -> x.odds(4, cell, many, 2), PushTray.UNKNOWN,
                    Edges.ALL);
            }
            Edges.refused("odds(0, 0, " + many + ", 0)", x -> x.odds(0, 0, many, 0), PushTray.UNKNOWN, Edges.WITHOUT_TRAY);
            Edges.refused("odds(4, 5, " + many + ", 2)", x -> x.odds(4, 5, many, 2), PushTray.UNKNOWN, Edges.WITHOUT_TRAY);
        }
    }

    private static void oddsOutside() {
        for (int pushes : Edges.beyond(1, 6)) {
            Edges.refused("odds(0, 0, " + pushes + ", 0)", x -> x.odds(0, 0, pushes, 0), PushTray.OUTSIDE, Edges.WITH_TRAY);
            Edges.refused("odds(4, 5, " + pushes + ", 1)", x -> x.odds(4, 5, pushes, 1), PushTray.OUTSIDE, Edges.WITH_TRAY);
        }
        for (int what : Edges.beyond(0, 1)) {
            Edges.refused("odds(0, 0, 1, " + what + ")", x -> x.odds(0, 0, 1, what), PushTray.OUTSIDE, Edges.WITH_TRAY);
            Edges.refused("odds(4, 5, 6, " + what + ")", x -> x.odds(4, 5, 6, what), PushTray.OUTSIDE, Edges.WITH_TRAY);
        }
    }

    private static void oddsAre(PushTray x, int tile, int cell, int pushes, int above, int below) {
        String call = "odds(" + tile + ", " + cell + ", " + pushes + ", ";
        Check.due(call + "0)", x.odds(tile, cell, pushes, 0), above);
        Check.due(call + "1)", x.odds(tile, cell, pushes, 1), below);
    }

    /** "none: all stays", and "0 of 1"; with one choice a tile goes to and fro, and nothing is open. */
    private static void oddsOfNoChoice() {
        PushTray none = Check.tray("01.234;nnnnn;.01234");
        PushTray one = Check.tray("0123.4;nnnno;.01234");
        for (int pushes = 1; pushes <= 6; pushes++) {
            oddsAre(none, 0, 0, pushes, 1, 1);
            oddsAre(none, 4, 5, pushes, 1, 1);
            oddsAre(none, 4, 2, pushes, 0, 1);
            oddsAre(one, 4, 4, pushes, pushes % 2, 1);
            oddsAre(one, 4, 5, pushes, 1 - pushes % 2, 1);
            oddsAre(one, 0, 0, pushes, 1, 1);
            oddsAre(one, 0, 4, pushes, 0, 1);
        }
    }

    /** The signs in their order, and against it: the first and the last of all ways to lie. */
    private static void oddsOfTheFirstAndTheLast() {
        String[] texts = {"01234.;nnnnt;01234.", ".43210;nnnnt;.43210"};
        int[][] cells = {{4, 5}, {1, 0}};
        for (int i = 0; i < texts.length; i++) {
            PushTray x = Check.tray(texts[i]);
            for (int pushes = 1; pushes <= 6; pushes++) {
                oddsAre(x, 4, cells[i][0], pushes, 1 - pushes % 2, 1);
                oddsAre(x, 4, cells[i][1], pushes, pushes % 2, 1);
            }
            x.push(4);
            for (int pushes = 6; pushes >= 1; pushes--) {
                oddsAre(x, 4, cells[i][0], pushes, pushes % 2, 1);
                oddsAre(x, 4, cells[i][1], pushes, 1 - pushes % 2, 1);
            }
        }
    }

    /** Each in lowest terms, and those of one tile in all six cells together one; from two choices and from three. */
    private static void oddsInLowestTerms() {
        String[] texts = {"01234.;ttttt;01234.", "0.1234;ooooo;01234.", "01.234;thnso;01234.", "0123.4;sthto;01234."};
        for (String text : texts) {
            for (int pushes = 1; pushes <= 6; pushes++) {
                PushTray x = Check.tray(text);
                for (int tile = 0; tile < 5; tile++) {
                    sumIsOne(x, text, tile, pushes);
                }
            }
        }
        PushTray middle = Check.tray("0.1234;ttttt;01234.");
        oddsAre(middle, 0, 0, 1, 2, 3);
        oddsAre(middle, 0, 1, 1, 1, 3);
        oddsAre(middle, 4, 5, 1, 1, 1);
    }

    private static void sumIsOne(PushTray x, String text, int tile, int pushes) {
        BigInteger whole = BigInteger.valueOf(46656);
        BigInteger sum = BigInteger.ZERO;
        for (int cell = 0; cell < 6; cell++) {
            BigInteger above = BigInteger.valueOf(x.odds(tile, cell, pushes, 0));
            BigInteger below = BigInteger.valueOf(x.odds(tile, cell, pushes, 1));
            String told = above + " of " + below + " for tile " + tile + " in cell " + cell + " of " + text;
            Check.isTrue(told + " is in lowest terms", above.gcd(below).equals(BigInteger.ONE));
            Check.isTrue(told + " parts six draws", whole.mod(below).signum() == 0);
            sum = sum.add(above.multiply(whole).divide(below));
        }
        Check.isTrue("odds of tile " + tile + " of " + text + " in " + pushes + " make one", sum.equals(whole));
    }
}
