/** The boundaries of promises 6 to 8: tiles, cells, kinds and what is asked, just inside and just outside. */
final class EdgeTilesTest {
    private EdgeTilesTest() {
    }

    public static void main(String[] args) {
        tileUnknown();
        tileOutside();
        tileInside();
        prices();
        sortsAndWays();
        homes();
        asRefused();
        asInside();
        cellRefused();
        cellInside();
        Check.end();
    }

    // ---- 6: "UNKNOWN (also without a TRAY); OUTSIDE"

    private static void tileUnknown() {
        int[] asked = {-1, 0, 6, 7, Integer.MAX_VALUE};
        for (int what : asked) {
            for (int tile : Edges.beyond(0, 4)) {
                Edges.refused("tile(" + tile + ", " + what + ")", x -> x.tile(tile, what), PushTray.UNKNOWN, Edges.ALL);
            }
            for (int tile = 0; tile < 5; tile++) {
                int each = tile;
                Edges.refused("tile(" + tile + ", " + what + ")", x -> x.tile(each, what), PushTray.UNKNOWN,
                    Edges.WITHOUT_TRAY);
            }
        }
    }

    private static void tileOutside() {
        int[] tiles = {0, 4};
        for (int tile : tiles) {
            for (int what : Edges.beyond(0, 6)) {
                Edges.refused("tile(" + tile + ", " + what + ")", x -> x.tile(tile, what), PushTray.OUTSIDE,
                    Edges.WITH_TRAY);
            }
        }
    }

    /** The least and the greatest tile, in the first cell and the last, now and in the goal, of the first kind and the last. */
    private static void tileInside() {
        PushTray x = Check.tray("01.234;thnso;4.1230");
        int[][] due = {{0, 0, 5}, {4, 5, 0}};
        for (int what = 0; what <= 2; what++) {
            Check.due("tile(0, " + what + ")", x.tile(0, what), due[0][what]);
            Check.due("tile(4, " + what + ")", x.tile(4, what), due[1][what]);
        }
    }

    /** "NONE: it cannot be": far from the free cell, nailed, or shy and not in its row; else 1 to 3. */
    private static void prices() {
        String kinds = "thnso";
        int[] within = {1, 2, -1, 1, 3};
        int[] between = {1, 2, -1, -1, 3};
        String[] lies = {".01234", "0.1234", "01.234", "012.34", "0123.4", "01234."};
        for (int free = 0; free < 6; free++) {
            for (int kind = 0; kind < 5; kind++) {
                PushTray x = Check.tray(lies[free] + ";nnnnn;01234.".replace('n', kinds.charAt(kind)));
                for (int cell = 0; cell < 6; cell++) {
                    if (cell != free) {
                        boolean oneRow = cell / 3 == free / 3;
                        boolean beside = oneRow && Math.abs(cell - free) == 1;
                        boolean aboveOrBelow = cell % 3 == free % 3;
                        int due = beside ? within[kind] : aboveOrBelow ? between[kind] : PushTray.NONE;
                        int tile = x.cell(cell, 0);
                        Check.due(kinds.charAt(kind) + " from cell " + cell + " to " + free, x.tile(tile, 3), due);
                    }
                }
            }
        }
    }

    /** All sorts are left, each one alone, or none: then there is no way. */
    private static void sortsAndWays() {
        PushTray x = Check.tray(Edges.TEXT);
        Check.due("sorts when nothing is seen", x.tile(0, 4), 31);
        Check.due("way when nothing is seen", x.tile(0, 5), 0);
        int[][] seen = {{1, 1, 1}, {0, 2, 2}, {0, 0, 4}, {0, 3, 16}};
        for (int[] one : seen) {
            PushTray y = Check.tray(Edges.TEXT);
            y.see(4, one[0], one[1]);
            Check.due("sorts when it cost " + one[1], y.tile(4, 4), one[2]);
            Check.due("way when it cost " + one[1], y.tile(4, 5), 0);
            Check.due("sorts of another tile", y.tile(3, 4), 31);
        }
        PushTray within = Check.tray(Edges.TEXT);
        within.see(4, 0, 1);
        Check.due("sorts when it cost 1 within its row", within.tile(4, 4), 1 | 8);
        Check.due("way when row to row alone parts them", within.tile(4, 5), 1);
        PushTray shy = Check.tray(Edges.TEXT);
        shy.see(0, 1, 0);
        Check.due("sorts when it did not go from row to row", shy.tile(0, 4), 4 | 8);
        Check.due("way when its row alone parts them", shy.tile(0, 5), 0);
        shy.see(0, 0, 1);
        Check.due("sorts when it went within its row, too", shy.tile(0, 4), 8);
        Check.due("way then", shy.tile(0, 5), 0);
        shy.see(0, 1, 3);
        Check.due("sorts against all that is seen", shy.tile(0, 4), 0);
        Check.due("way against all that is seen", shy.tile(0, 5), PushTray.NONE);
    }

    /** "HOME for its CELL in the GOAL (NONE)": it is there, it goes there, it never can. */
    private static void homes() {
        PushTray x = Check.tray(Edges.TEXT);
        Check.due("tile(0, 6): it is there", x.tile(0, 6), 0);
        Check.due("tile(2, 6): it is nailed elsewhere", x.tile(2, 6), PushTray.NONE);
        Check.due("tile(4, 6): it is there", x.tile(4, 6), 0);
        Check.due("tile(1, 6) one heavy push from there", Check.tray("01.234;thnso;0.1234").tile(1, 6), 2);
        Check.due("tile(0, 6) of a stone beside its cell", Check.tray(".01234;ootoo;0.1234").tile(0, 6), 3);
    }

    // ---- 7: "NONE: it is none such. UNKNOWN (also without a TRAY); OUTSIDE"

    private static void asRefused() {
        int[] asked = {-1, 0, 4, 5};
        for (int kind : asked) {
            for (int tile : Edges.beyond(0, 4)) {
                Edges.refused("as(" + tile + ", " + kind + ")", x -> x.as(tile, kind), PushTray.UNKNOWN, Edges.ALL);
            }
            Edges.refused("as(0, " + kind + ")", x -> x.as(0, kind), PushTray.UNKNOWN, Edges.WITHOUT_TRAY);
            Edges.refused("as(4, " + kind + ")", x -> x.as(4, kind), PushTray.UNKNOWN, Edges.WITHOUT_TRAY);
        }
        for (int kind : Edges.beyond(0, 4)) {
            Edges.refused("as(0, " + kind + ")", x -> x.as(0, kind), PushTray.OUTSIDE, Edges.WITH_TRAY);
            Edges.refused("as(4, " + kind + ")", x -> x.as(4, kind), PushTray.OUTSIDE, Edges.WITH_TRAY);
        }
    }

    /** Each tile in turn is of each kind: its own, TILE always, and HEAVY if it is a stone; a heavy one is no stone. */
    private static void asInside() {
        for (int tile = 0; tile < 5; tile++) {
            for (int is = 0; is < 5; is++) {
                PushTray x = Check.tray(Edges.TEXT);
                x.recast(tile, is);
                for (int kind = 0; kind < 5; kind++) {
                    boolean such = kind == 0 || kind == is || is == 4 && kind == 1;
                    Check.due("as(" + tile + ", " + kind + ") of kind " + is, x.as(tile, kind), such ? tile : PushTray.NONE);
                }
            }
        }
    }

    // ---- 8: "NONE: FREE, for both. UNKNOWN (also without a TRAY); OUTSIDE"

    private static void cellRefused() {
        int[] asked = {-1, 0, 2, 3};
        for (int what : asked) {
            for (int cell : Edges.beyond(0, 5)) {
                Edges.refused("cell(" + cell + ", " + what + ")", x -> x.cell(cell, what), PushTray.UNKNOWN, Edges.ALL);
            }
            for (int cell = 0; cell < 6; cell++) {
                int each = cell;
                Edges.refused("cell(" + cell + ", " + what + ")", x -> x.cell(each, what), PushTray.UNKNOWN,
                    Edges.WITHOUT_TRAY);
            }
        }
        for (int what : Edges.beyond(0, 2)) {
            Edges.refused("cell(0, " + what + ")", x -> x.cell(0, what), PushTray.OUTSIDE, Edges.WITH_TRAY);
            Edges.refused("cell(5, " + what + ")", x -> x.cell(5, what), PushTray.OUTSIDE, Edges.WITH_TRAY);
        }
    }

    private static void cellInside() {
        PushTray first = Check.tray(".01234;nnnnn;43210.");
        int[][] due = {{-1, 4, 0}, {0, 3, 1}, {1, 2, 0}, {2, 1, 1}, {3, 0, 0}, {4, -1, 0}};
        PushTray last = Check.tray("43210.;nnnnn;.01234");
        int[][] dueThen = {{4, -1, 0}, {3, 0, 0}, {2, 1, 1}, {1, 2, 0}, {0, 3, 1}, {-1, 4, 0}};
        for (int cell = 0; cell < 6; cell++) {
            for (int what = 0; what <= 2; what++) {
                String call = "cell(" + cell + ", " + what + ") of ";
                Check.due(call + "free in cell 0", first.cell(cell, what), due[cell][what]);
                Check.due(call + "free in cell 5", last.cell(cell, what), dueThen[cell][what]);
            }
        }
    }
}
