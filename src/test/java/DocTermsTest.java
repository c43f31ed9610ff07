import java.math.BigInteger;

/** Each sentence of the document's terms, by the calls that tell of them. */
final class DocTermsTest {
    private static final String KINDS = "thnso";
    private static final String[] PAIRS = {"01", "12", "34", "45", "03", "14", "25"};

    private DocTermsTest() {
    }

    public static void main(String[] args) {
        atFirst();
        kinds();
        allAreTiles();
        next();
        pushed();
        exchanged();
        least();
        reach();
        home();
        swaps();
        cheap();
        odds();
        seen();
        sorts();
        way();
        runs();
        draws();
        image();
        refusals();
        refusalsChangeNothing();
        Doc.termsAreHeld();
        Check.end();
    }

    private static void atFirst() {
        Doc.terms("At first there is none; then no PUSH was.");
        PushTray x = new PushTray();
        Check.due("image() at first", x.image(), PushTray.STATE);
        Check.write(x, "01.234;thnso;0123.4");
        x.tray();
        Check.due("image() then", x.image(), 0);
    }

    private static void kinds() {
        Doc.terms("KINDS are told by the letter: 0 TILE \"t\", 1 HEAVY \"h\", 2 NAILED \"n\", 3 SHY \"s\", 4 STONE \"o\".");
        for (int kind = 0; kind < 5; kind++) {
            PushTray x = Check.tray("01.234;ttktt;01.234".replace('k', KINDS.charAt(kind)));
            Check.due("kind of " + KINDS.charAt(kind), x.tile(2, 0), kind);
        }
    }

    private static void allAreTiles() {
        Doc.terms("All are TILES; a STONE is HEAVY, too.");
        PushTray x = Check.tray("01.234;thnso;01.234");
        for (int tile = 0; tile < 5; tile++) {
            Check.due("as(" + tile + ", 0)", x.as(tile, 0), tile);
            Check.due("as(" + tile + ", 1)", x.as(tile, 1), tile == 1 || tile == 4 ? tile : PushTray.NONE);
        }
    }

    private static boolean areNext(int a, int b) {
        for (String pair : PAIRS) {
            if (pair.equals(a + "" + b) || pair.equals(b + "" + a)) {
                return true;
            }
        }
        return false;
    }

    private static PushTray freeIn(int free, String kinds) {
        String lies = Edges.swapped(".01234", 0, free);
        return Check.tray(lies + ";" + kinds + ";" + lies);
    }

    private static void next() {
        Doc.terms("CELLS are NEXT to each other, if one is just west, or just above the other one.");
        for (int free = 0; free < 6; free++) {
            PushTray x = freeIn(free, "ttttt");
            for (int cell = 0; cell < 6; cell++) {
                Check.due(cell + " next to " + free, x.cell(cell, 2), areNext(cell, free) ? 1 : 0);
            }
        }
    }

    private static void pushed() {
        Doc.terms("A TILE in a CELL that is NEXT to the FREE one can be PUSHED there (its own is FREE then): "
            + "for a COST of 1, a HEAVY one 2, a STONE 3; a NAILED one cannot be; a SHY one just within its row.");
        int[] within = {1, 2, PushTray.STATE, 1, 3};
        int[] between = {1, 2, PushTray.STATE, PushTray.STATE, 3};
        for (int kind = 0; kind < 5; kind++) {
            for (int free = 0; free < 6; free++) {
                for (int cell = 0; cell < 6; cell++) {
                    boolean oneRow = cell / 3 == free / 3;
                    int cost = !areNext(cell, free) ? PushTray.STATE : oneRow ? within[kind] : between[kind];
                    if (cell != free) {
                        pushedFrom(freeIn(free, "ttttt".replace('t', KINDS.charAt(kind))), cell, free, cost);
                    }
                }
            }
        }
    }

    private static void pushedFrom(PushTray x, int cell, int free, int cost) {
        int tile = x.cell(cell, 0);
        String call = "push of kind " + x.tile(tile, 0) + " from " + cell + " to " + free;
        Check.due(call, x.push(tile), cost);
        Check.due(call + ": where it is", x.tile(tile, 1), cost > 0 ? free : cell);
        Check.due(call + ": what is free", x.count(0), cost > 0 ? cell : free);
    }

    private static void exchanged() {
        Doc.terms("What is in two CELLS can be EXCHANGED (one of them may be FREE; whatever is NAILED).");
        PushTray x = Check.tray("01.234;nnnnn;0123.4");
        Check.due("exchange(0, 5) of nailed ones", x.exchange(0, 5), 2);
        Check.due("exchange(2, 3), where one is free", x.exchange(2, 3), 3);
        Check.liesAs("what was exchanged", x, 0, "412.30");
        Check.due("aim(5, 0) at nailed ones", x.aim(5, 0), 4);
        Check.due("aim(4, 1), where one is free", x.aim(4, 1), 1);
        Check.liesAs("what was exchanged in the goal", x, 1, "4.2310");
    }

    private static void leastIs(String text, int cost, int first, int pushes) {
        PushTray x = Check.tray(text);
        Check.due("least(0) of " + text, x.least(0), cost);
        Check.due("least(1) of " + text, x.least(1), first);
        Check.due("least(2) of " + text, x.least(2), pushes);
    }

    /** Those of many pushes were told by a search in another language; there are cheapest ways of fewer and of more. */
    private static void least() {
        Doc.terms("LEAST: the least COST, together, of PUSHES by which all lies as in the GOAL (0: it does): how much; "
            + "which TILE is PUSHED first (none: it lies so); how many PUSHES there are, if each time, of those with which "
            + "it is least yet, the least TILE is taken; none.");
        leastIs("01.234;thnso;01.234", 0, PushTray.NONE, 0);
        // The stone goes up, the shy one east.
        leastIs("01.234;thnso;0142.3", 3 + 1, 4, 2);
        leastIs("01.234;thnso;0124.3", PushTray.NONE, PushTray.NONE, PushTray.NONE);
        leastIs("410.23;tttho;0241.3", 21, 2, 15);
        leastIs("3.4210;thtto;3201.4", 30, 1, 19);
        leastIs("4.2013;thott;4031.2", 30, 1, 19);
    }

    private static void reachIs(String text, int many, int far) {
        PushTray x = Check.tray(text);
        Check.due("reach(0) of " + text, x.reach(0), many);
        Check.due("reach(1) of " + text, x.reach(1), far);
    }

    private static void reach() {
        Doc.terms("REACH: in how many ways all can lie by PUSHES (this one with them); "
            + "FAR: the greatest of all least COSTS to them.");
        reachIs("01.234;nnnnn;.43210", 1, 0);
        // The heavy one, the plain one behind it; or the stone, the shy one, the heavy one, then the plain one or the stone.
        reachIs("01.234;thnso;.43210", 1 + 2 + 5, 3 + 1 + 2 + 3);
        reachIs("01.234;ttttt;.43210", 360, 21);
    }

    private static void home() {
        Doc.terms("HOME for a TILE and a CELL: the least COST of PUSHES by which it is there; none.");
        PushTray x = Check.tray("01.234;thnso;0123.4");
        Check.due("home(1, 1), where it is", x.home(1, 1), 0);
        Check.due("home(1, 2)", x.home(1, 2), 2);
        Check.due("home(1, 4), behind a stone and a shy one", x.home(1, 4), 3 + 1 + 2);
        Check.due("home(0, 1), the one of two ways that is cheaper", x.home(0, 1), 2 + 1);
        Check.due("home(2, 2), which is nailed elsewhere", x.home(2, 2), PushTray.NONE);
    }

    private static void swaps() {
        Doc.terms("SWAPS: by how few EXCHANGES (of any two CELLS) all lies as in the GOAL.");
        String[] goals = {"01.234", "41.230", "41.203", "41.023", "4.1023", "14.023"};
        int[] due = {0, 1, 2, 3, 4, 4};
        for (int i = 0; i < goals.length; i++) {
            PushTray x = Check.tray("01.234;thnso;" + goals[i]);
            Check.due("swaps() to " + goals[i], x.swaps(), due[i]);
        }
    }

    private static void cheapIs(String text, int which, int cost) {
        PushTray x = Check.tray(text);
        Check.due("cheap(0) of " + text, x.cheap(0), which);
        Check.due("cheap(1) of " + text, x.cheap(1), cost);
    }

    private static void cheap() {
        Doc.terms("CHEAP: which one EXCHANGE to make now, so that the least COST of PUSHES behind it, to the GOAL, is least: "
            + "told as 10 times the one CELL and the other one (the lesser one first): of like ones the least; "
            + "none, if by none it can be; how much.");
        cheapIs("01.234;nnnnn;04.231", 15, 0);
        cheapIs("01.234;nnnnn;10.234", 1, 0);
        // It lies as in the goal: what is exchanged is pushed back, plain ones for 1 from cell 1 or cell 5.
        cheapIs("01.234;ttttt;01.234", 12, 1);
        cheapIs("01.234;tottt;01.234", 25, 1);
        cheapIs("01.234;nnnnn;01.234", PushTray.NONE, PushTray.NONE);
    }

    private static void oddsAre(PushTray x, int tile, int cell, int pushes, int above, int below) {
        String call = "odds(" + tile + ", " + cell + ", " + pushes + ", ";
        Check.due(call + "0)", x.odds(tile, cell, pushes, 0), above);
        Check.due(call + "1)", x.odds(tile, cell, pushes, 1), below);
    }

    private static void odds() {
        Doc.terms("ODDS for a TILE, a CELL and so many PUSHES (1 to 6): each is one of those that can be PUSHED then, "
            + "each as likely (none: all stays): how likely it is there behind these, in whole parts.");
        // The nailed one never goes, the shy one not from row to row: the heavy one or the stone, whatever they cost.
        PushTray x = Check.tray("01.234;thnso;0123.4");
        oddsAre(x, 1, 2, 1, 1, 2);
        oddsAre(x, 4, 2, 1, 1, 2);
        // Behind the heavy one it or tile 0 can go, behind the stone it or the shy one.
        oddsAre(x, 0, 1, 2, 1, 4);
        oddsAre(x, 3, 5, 2, 1, 4);
        oddsAre(x, 4, 5, 2, 1 + 2, 4);
        PushTray none = Check.tray("01.234;nnnnn;0123.4");
        oddsAre(none, 4, 5, 6, 1, 1);
        oddsAre(none, 4, 2, 6, 0, 1);
    }

    private static void seen() {
        Doc.terms("SEEN (6 at most): that a TILE, of which it is not known of which KIND it is, was to be PUSHED "
            + "within its row (0), or from row to row (1), and what it COST (0: it did not go; else 1 to 3).");
        PushTray x = Check.tray("01.234;ttttt;0123.4");
        for (int many = 1; many <= 6; many++) {
            Check.due("see " + many, x.see(many % 5, many % 2, many % 4), many);
        }
        Check.due("see 7", x.see(0, 0, 0), PushTray.FULL);
        Check.due("the kind that it is, whatever was seen", x.tile(1, 0), 0);
    }

    /** What each kind costs in each way, against what was seen in none, one or both ways. */
    private static void sorts() {
        Doc.terms("SORTS (KINDS 0 to 4) it can be of, so that all that is SEEN of it is so: as bits.");
        int[][] costs = {{1, 1}, {2, 2}, {0, 0}, {1, 0}, {3, 3}};
        Check.due("sorts of nothing seen", Check.tray("01.234;ooooo;0123.4").tile(2, 4), 31);
        for (int within = 0; within <= 3; within++) {
            for (int between = 0; between <= 3; between++) {
                PushTray x = Check.tray("01.234;ooooo;0123.4");
                x.see(2, 0, within);
                x.see(2, 1, between);
                int due = 0;
                for (int kind = 0; kind < 5; kind++) {
                    due += costs[kind][0] == within && costs[kind][1] == between ? 1 << kind : 0;
                }
                Check.due("sorts that cost " + within + " and " + between, x.tile(2, 4), due);
                Check.due("sorts of another one", x.tile(3, 4), 31);
            }
        }
    }

    private static void way() {
        Doc.terms("WAY for a TILE: within its row (0) or from row to row (1), to try it, so that fewest of these are left "
            + "at worst, by what it COSTS: of like ones 0; none, if there are none.");
        PushTray x = Check.tray("01.234;ooooo;0123.4");
        // Within its row a plain one and a shy one cost alike, from row to row a nailed one and a shy one: two at worst.
        Check.due("way of all sorts", x.tile(0, 5), 0);
        x.see(1, 0, 1);
        Check.due("way of a plain or a shy one", x.tile(1, 5), 1);
        x.see(2, 1, 0);
        Check.due("way of a nailed or a shy one", x.tile(2, 5), 0);
        x.see(3, 1, 3);
        Check.due("way of a stone", x.tile(3, 5), 0);
        x.see(3, 0, 1);
        Check.due("way of none", x.tile(3, 5), PushTray.NONE);
    }

    /** From seed 0 come 12345, 1406932606, 654583775; by 65536 these are 0, 21468, 9988. */
    private static void runs() {
        Doc.terms("RUNS by a SEED, as they would be: so many times a PUSH of one of those that can be, by number, "
            + "by a DRAW of how many there are (none: nothing is drawn): how much they COST, together; "
            + "how many CELLS hold then what they do in the GOAL.");
        // Tiles 0, 2 and 4 can go: the first of them, heavy; back, as the first of two; then the second, a stone.
        PushTray x = Check.tray("4.0123;htott;4.0123");
        int[][] due = {{2, 4}, {2 + 2, 6}, {2 + 2 + 3, 4}};
        for (int times = 1; times <= 3; times++) {
            Check.due("runs(" + times + ", 0, 0)", x.runs(times, 0, 0), due[times - 1][0]);
            Check.due("runs(" + times + ", 0, 1)", x.runs(times, 0, 1), due[times - 1][1]);
        }
        Check.liesAs("runs, as they would be", x, 0, "4.0123");
        Check.due("pushes behind runs", x.count(2), 0);
        // A draw of one is a draw, too.
        PushTray one = Check.tray("01.234;nnnno;0123.4");
        Check.due("runs(3, 0, 0) of one", one.runs(3, 0, 0), 9);
        Check.due("runs(3, 0, 2) of one", one.runs(3, 0, 2), 654583775);
        PushTray none = Check.tray("01.234;nnnnn;0123.4");
        Check.due("runs(60, 77, 0) of nailed ones", none.runs(60, 77, 0), 0);
        Check.due("runs(60, 77, 2): nothing is drawn", none.runs(60, 77, 2), 77);
    }

    /** What it costs tells which one went. */
    private static void draws() {
        Doc.terms("DRAWS: the next SEED each time: 1103515245 times it and 12345, its rest by 2 to the 31; "
            + "then that by 65536 (rounded down), its rest.");
        PushTray three = Check.tray("0.1234;thtoo;0.1234");
        PushTray two = Check.tray("0.1234;thnso;0.1234");
        int[] seeds = {0, 1, 2, 3, 5, 8, 13, 77, 65535, 65536, 99999999, 2147483646, 2147483647};
        for (int seed : seeds) {
            BigInteger next = BigInteger.valueOf(1103515245).multiply(BigInteger.valueOf(seed))
                .add(BigInteger.valueOf(12345)).mod(BigInteger.TWO.pow(31));
            int draw = next.divide(BigInteger.valueOf(65536)).intValueExact();
            Check.due("runs(1, " + seed + ", 0) of three", three.runs(1, seed, 0), draw % 3 + 1);
            Check.due("runs(1, " + seed + ", 0) of two", two.runs(1, seed, 0), draw % 2 + 1);
            Check.due("runs(1, " + seed + ", 2)", two.runs(1, seed, 2), next.intValueExact());
        }
    }

    private static void image() {
        Doc.terms("An IMAGE keeps what lies where, KINDS, the GOAL, PUSHES, COSTS, SEEN.");
        PushTray x = Check.tray("01.234;thnso;0123.4");
        x.push(4);
        x.see(0, 0, 1);
        x.image();
        x.push(3);
        x.exchange(0, 1);
        x.recast(0, 4);
        x.aim(0, 5);
        x.forget();
        x.see(1, 0, 2);
        x.see(2, 0, 0);
        x.restore();
        Check.liesAs("what lies where", x, 0, "01423.");
        Check.due("kind of tile 0", x.tile(0, 0), 0);
        Check.liesAs("the goal", x, 1, "0123.4");
        Check.due("pushes", x.count(2), 1);
        Check.due("costs", x.count(3), 3);
        Check.due("seen", x.count(6), 1);
        Check.due("sorts of tile 0", x.tile(0, 4), 1 + 8);
        Check.due("sorts of tile 1", x.tile(1, 4), 31);
        Check.due("sorts of tile 2", x.tile(2, 4), 31);
    }

    private static void refusals() {
        Doc.terms("Refusals, of several the first as told by each call: UNKNOWN (a number names nothing), "
            + "OUTSIDE (it is not as told), STATE (as told), FULL");
        PushTray full = Edges.Made.FULL.make();
        Check.due("letter(31) of a full page", full.letter(31), PushTray.OUTSIDE);
        Check.due("tile(5, 7)", full.tile(5, 7), PushTray.UNKNOWN);
        Check.due("as(5, 5)", full.as(5, 5), PushTray.UNKNOWN);
        Check.due("cell(6, 3)", full.cell(6, 3), PushTray.UNKNOWN);
        Check.due("recast(5, 5)", full.recast(5, 5), PushTray.UNKNOWN);
        Check.due("odds(5, 0, 7, 2)", full.odds(5, 0, 7, 2), PushTray.UNKNOWN);
        Check.due("odds(0, 6, 0, 0)", full.odds(0, 6, 0, 0), PushTray.UNKNOWN);
        Check.due("see(5, 2, 4) of all seen", full.see(5, 2, 4), PushTray.UNKNOWN);
        Check.due("see(0, 2, 0) of all seen", full.see(0, 2, 0), PushTray.OUTSIDE);
        Check.due("cheap(2) of all done", full.cheap(2), PushTray.OUTSIDE);
        PushTray none = new PushTray();
        Check.due("least(3) without a tray", none.least(3), PushTray.OUTSIDE);
        Check.due("reach(2) without a tray", none.reach(2), PushTray.OUTSIDE);
        Check.due("cheap(2) without a tray", none.cheap(2), PushTray.OUTSIDE);
        Check.due("runs(0, 0, 0) without a tray", none.runs(0, 0, 0), PushTray.OUTSIDE);
        Check.due("see(0, 2, 0) without a tray", none.see(0, 2, 0), PushTray.UNKNOWN);
        Check.due("recast(0, 5) without a tray", none.recast(0, 5), PushTray.UNKNOWN);
    }

    /** One refusal of each call that has one and of each name; the tests of boundaries go through all of them. */
    private static void refusalsChangeNothing() {
        Doc.terms("they change nothing.");
        Edges.refused("letter(31)", x -> x.letter(31), PushTray.OUTSIDE, Edges.ALL);
        Edges.refused("letter('0')", x -> x.letter('0'), PushTray.FULL, Edges.Made.FULL);
        Edges.refused("tray()", x -> x.tray(), PushTray.STATE, Edges.ALL);
        Edges.refused("push(5)", x -> x.push(5), PushTray.UNKNOWN, Edges.ALL);
        Edges.refused("push(0)", x -> x.push(0), PushTray.STATE, Edges.Made.READ);
        Edges.refused("exchange(3, 3)", x -> x.exchange(3, 3), PushTray.UNKNOWN, Edges.ALL);
        Edges.refused("aim(3, 3)", x -> x.aim(3, 3), PushTray.UNKNOWN, Edges.ALL);
        Edges.refused("recast(5, 0)", x -> x.recast(5, 0), PushTray.UNKNOWN, Edges.ALL);
        Edges.refused("recast(0, 5)", x -> x.recast(0, 5), PushTray.OUTSIDE, Edges.WITH_TRAY);
        Edges.refused("cheap(2)", x -> x.cheap(2), PushTray.OUTSIDE, Edges.ALL);
        Edges.refused("cheap(0)", x -> x.cheap(0), PushTray.STATE, Edges.Made.FULL);
        Edges.refused("see(5, 0, 0)", x -> x.see(5, 0, 0), PushTray.UNKNOWN, Edges.ALL);
        Edges.refused("see(0, 0, 4)", x -> x.see(0, 0, 4), PushTray.OUTSIDE, Edges.WITH_TRAY);
        Edges.refused("see(0, 0, 1)", x -> x.see(0, 0, 1), PushTray.FULL, Edges.Made.FULL);
        Edges.refused("runs(0, 0, 0)", x -> x.runs(0, 0, 0), PushTray.OUTSIDE, Edges.ALL);
        Edges.refused("image()", x -> x.image(), PushTray.STATE, Edges.WITHOUT_TRAY);
        Edges.refused("restore()", x -> x.restore(), PushTray.STATE, Edges.Made.READ);
    }
}
