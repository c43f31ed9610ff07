/** The boundaries of promises 9 to 12: what can be pushed, exchanged and recast, and what just cannot. */
final class EdgeDoneTest {
    private EdgeDoneTest() {
    }

    public static void main(String[] args) {
        pushUnknown();
        pushState();
        pushFromEachCell();
        asManyPushesAsCallsAllow();
        pushFull();
        exchangeAndAimUnknown();
        exchangeOfEachPair();
        aimOfEachPair();
        recastRefused();
        recastInside();
        Check.end();
    }

    // ---- 9: "UNKNOWN (also without a TRAY); STATE: it cannot be; FULL: 999 were"

    private static void pushUnknown() {
        for (int tile : Edges.beyond(0, 4)) {
            Edges.refused("push(" + tile + ")", x -> x.push(tile), PushTray.UNKNOWN, Edges.ALL);
        }
        for (int tile = 0; tile < 5; tile++) {
            int each = tile;
            Edges.refused("push(" + tile + ")", x -> x.push(each), PushTray.UNKNOWN, Edges.WITHOUT_TRAY);
        }
    }

    /** On a tray as read, and on used ones, which are free in cell 4. */
    private static void pushState() {
        int[] far = {0, 2, 3};
        for (int tile : far) {
            Edges.refused("push(" + tile + "), not next to the free cell", x -> x.push(tile), PushTray.STATE, Edges.Made.READ);
        }
        for (Edges.Made made : Edges.WITH_TRAY) {
            for (int tile = 0; tile < 5; tile++) {
                int each = tile;
                if (made.make().tile(tile, 3) == PushTray.NONE) {
                    Edges.refused("push(" + tile + ")", x -> x.push(each), PushTray.STATE, made);
                } else {
                    PushTray x = made.make();
                    int price = x.tile(tile, 3);
                    Check.due("push(" + tile + ") of " + made, x.push(tile), price);
                }
            }
        }
    }

    /** Each kind in each cell beside each free one: it goes, and the free cell is where it was; or all stays. */
    private static void pushFromEachCell() {
        String kinds = "thnso";
        int[] within = {1, 2, PushTray.STATE, 1, 3};
        int[] between = {1, 2, PushTray.STATE, PushTray.STATE, 3};
        for (int free = 0; free < 6; free++) {
            for (int cell = 0; cell < 6; cell++) {
                for (int kind = 0; kind < 5 && cell != free; kind++) {
                    String lies = Edges.swapped(".01234", 0, free);
                    PushTray x = Check.tray(lies + ";nnnnn;.01234".replace('n', kinds.charAt(kind)));
                    boolean beside = cell / 3 == free / 3 && Math.abs(cell - free) == 1;
                    boolean aboveOrBelow = cell % 3 == free % 3;
                    int due = beside ? within[kind] : aboveOrBelow ? between[kind] : PushTray.STATE;
                    String call = "push of " + kinds.charAt(kind) + " from cell " + cell + " to " + free;
                    Check.due(call, x.push(lies.charAt(cell) - '0'), due);
                    Check.liesAs(call, x, 0, due > 0 ? Edges.swapped(lies, cell, free) : lies);
                    Check.due(call + ": pushes", x.count(2), due > 0 ? 1 : 0);
                    Check.due(call + ": costs", x.count(3), due > 0 ? due : 0);
                }
            }
        }
    }

    /** 19 letters, tray(), and 490 pushes and two of count() make 512 calls: FULL is never met among them. */
    private static void asManyPushesAsCallsAllow() {
        PushTray x = Check.tray("01.234;ooooo;01.234");
        for (int pushes = 1; pushes <= 490; pushes++) {
            Check.due("push " + pushes, x.push(4), 3);
        }
        Check.due("pushes", x.count(2), 490);
        Check.due("costs", x.count(3), 1470);
    }

    /**
     * 999 pushes can't be met within the 512 calls for which an object is promised, nor by an image, which keeps but
     * what was: so nothing here is due by the document, and this shows but that the bound stands in the program.
     */
    private static void pushFull() {
        PushTray x = Check.tray("01.234;thnso;01.234");
        for (int pushes = 1; pushes <= 999; pushes++) {
            Check.due("push " + pushes, x.push(1), 2);
        }
        Check.due("push 1000", x.push(1), PushTray.FULL);
        Check.due("push 1000 of one that cannot be", x.push(3), PushTray.STATE);
        Check.due("push 1000 of none", x.push(5), PushTray.UNKNOWN);
        Check.due("pushes", x.count(2), 999);
        Check.due("costs", x.count(3), 1998);
    }

    // ---- 10, 11: "UNKNOWN: a, b (also without a TRAY), or they are the same"

    private static void unknownPair(int a, int b, Edges.Made... objects) {
        Edges.refused("exchange(" + a + ", " + b + ")", x -> x.exchange(a, b), PushTray.UNKNOWN, objects);
        Edges.refused("aim(" + a + ", " + b + ")", x -> x.aim(a, b), PushTray.UNKNOWN, objects);
    }

    private static void exchangeAndAimUnknown() {
        for (int beyond : Edges.beyond(0, 5)) {
            unknownPair(beyond, 0, Edges.ALL);
            unknownPair(5, beyond, Edges.ALL);
            unknownPair(beyond, beyond, Edges.ALL);
        }
        for (int cell = 0; cell < 6; cell++) {
            unknownPair(cell, cell, Edges.ALL);
            unknownPair(cell, 5 - cell, Edges.WITHOUT_TRAY);
        }
    }

    /** Whether tiles are nailed, whether one cell is free, and whichever cell comes first. */
    private static void exchangeOfEachPair() {
        for (int a = 0; a < 6; a++) {
            for (int b = 0; b < 6; b++) {
                if (a != b) {
                    PushTray x = Check.tray("01.234;nnnnn;4.3210");
                    String then = Edges.swapped("01.234", a, b);
                    String call = "exchange(" + a + ", " + b + ")";
                    Check.due(call, x.exchange(a, b), then.indexOf('.'));
                    Check.liesAs(call, x, 0, then);
                    Check.liesAs(call + " in the goal", x, 1, "4.3210");
                    Check.due(call + ": pushes", x.count(2), 0);
                    Check.due(call + ": costs", x.count(3), 0);
                }
            }
        }
    }

    private static void aimOfEachPair() {
        for (int a = 0; a < 6; a++) {
            for (int b = 0; b < 6; b++) {
                if (a != b) {
                    PushTray x = Check.tray("01.234;nnnnn;4.3210");
                    String then = Edges.swapped("4.3210", a, b);
                    String call = "aim(" + a + ", " + b + ")";
                    Check.due(call, x.aim(a, b), then.indexOf('.'));
                    Check.liesAs(call, x, 1, then);
                    Check.liesAs(call + " now", x, 0, "01.234");
                }
            }
        }
    }

    // ---- 12: "UNKNOWN (also without a TRAY); OUTSIDE: kind (0 to 4)"

    private static void recastRefused() {
        int[] kinds = {-1, 0, 4, 5};
        for (int kind : kinds) {
            for (int tile : Edges.beyond(0, 4)) {
                Edges.refused("recast(" + tile + ", " + kind + ")", x -> x.recast(tile, kind), PushTray.UNKNOWN, Edges.ALL);
            }
            Edges.refused("recast(0, " + kind + ")", x -> x.recast(0, kind), PushTray.UNKNOWN, Edges.WITHOUT_TRAY);
            Edges.refused("recast(4, " + kind + ")", x -> x.recast(4, kind), PushTray.UNKNOWN, Edges.WITHOUT_TRAY);
        }
        for (int kind : Edges.beyond(0, 4)) {
            Edges.refused("recast(0, " + kind + ")", x -> x.recast(0, kind), PushTray.OUTSIDE, Edges.WITH_TRAY);
            Edges.refused("recast(4, " + kind + ")", x -> x.recast(4, kind), PushTray.OUTSIDE, Edges.WITH_TRAY);
        }
    }

    /** Each tile from each kind to each, itself too; the others stay as they are. */
    private static void recastInside() {
        for (int tile = 0; tile < 5; tile++) {
            PushTray x = Check.tray(Edges.TEXT);
            for (int pair = 0; pair < 25; pair++) {
                x.recast(tile, pair / 5);
                Check.due("recast(" + tile + ", " + pair % 5 + ")", x.recast(tile, pair % 5), pair / 5);
                Check.due("kind of " + tile, x.tile(tile, 0), pair % 5);
            }
            for (int other = 0; other < 5; other++) {
                Check.due("kind of " + other + " behind recast() of " + tile, x.tile(other, 0), other == tile ? 4 : other);
            }
        }
    }
}
