/** Each sentence of promises 6 to 8. */
final class DocTilesTest {
    /** Tile 1, heavy, is west of the free cell, and tile 4, a stone, below it; tile 2 is nailed in cell 3. */
    private static final String TEXT = "01.234;thnso;4123.0";

    private DocTilesTest() {
    }

    public static void main(String[] args) {
        tileKind();
        tileCell();
        tileCellInTheGoal();
        tilePrice();
        tileSorts();
        tileWay();
        tileHome();
        tileRefused();
        asSuch();
        asNoneSuch();
        asRefused();
        cellTile();
        cellNext();
        cellRefused();
        Doc.promisesAreHeld(6, 8);
        Check.end();
    }

    private static void tilesAre(PushTray x, int what, int... due) {
        for (int tile = 0; tile < 5; tile++) {
            Check.due("tile(" + tile + ", " + what + ")", x.tile(tile, what), due[tile]);
        }
    }

    private static void tileKind() {
        Doc.promise(6, "Of a TILE: what = 0 KIND");
        tilesAre(Check.tray(TEXT), 0, 0, 1, 2, 3, 4);
        tilesAre(Check.tray("01.234;ossht;01.234"), 0, 4, 3, 3, 1, 0);
    }

    private static void tileCell() {
        Doc.promise(6, "1 in which CELL it is");
        PushTray x = Check.tray(TEXT);
        tilesAre(x, 1, 0, 1, 3, 4, 5);
        x.push(4);
        tilesAre(x, 1, 0, 1, 3, 4, 2);
    }

    private static void tileCellInTheGoal() {
        Doc.promise(6, "2 in which in the GOAL");
        PushTray x = Check.tray(TEXT);
        tilesAre(x, 2, 5, 1, 2, 3, 0);
        x.aim(0, 4);
        tilesAre(x, 2, 5, 1, 2, 3, 4);
    }

    private static void tilePrice() {
        Doc.promise(6, "3 what a PUSH of it would COST now (NONE: it cannot be)");
        PushTray x = Check.tray(TEXT);
        tilesAre(x, 3, -1, 2, -1, -1, 3);
        x.push(4);
        // Beside cell 5 there are the stone that went, and the shy one, within its row.
        tilesAre(x, 3, -1, -1, -1, 1, 3);
    }

    private static void tileSorts() {
        Doc.promise(6, "4 SORTS, as bits");
        PushTray x = Check.tray(TEXT);
        x.see(0, 0, 1);
        x.see(1, 1, 0);
        x.see(2, 0, 2);
        x.see(3, 1, 3);
        tilesAre(x, 4, 1 + 8, 4 + 8, 2, 16, 31);
    }

    private static void tileWay() {
        Doc.promise(6, "5 WAY (NONE)");
        PushTray x = Check.tray(TEXT);
        x.see(0, 0, 1);
        x.see(1, 1, 0);
        x.see(2, 0, 2);
        x.see(2, 1, 3);
        tilesAre(x, 5, 1, 0, -1, 0, 0);
    }

    private static void tileHome() {
        Doc.promise(6, "6 HOME for its CELL in the GOAL (NONE)");
        // Tile 1 makes room for tile 0; the stone goes up, and then makes room for tile 3; 1 and 0 can't pass each other.
        PushTray x = Check.tray("01.234;thnso;10423.");
        tilesAre(x, 6, 2 + 1, -1, 0, 0, 3);
        x.aim(4, 5);
        tilesAre(x, 6, 2 + 1, -1, 0, 3 + 1, 3);
    }

    private static void tileRefused() {
        Doc.promise(6, "UNKNOWN (also without a TRAY)");
        Doc.promise(6, "OUTSIDE");
        PushTray x = Check.tray(TEXT);
        Check.due("tile(5, 0)", x.tile(5, 0), PushTray.UNKNOWN);
        Check.due("tile(-1, 0)", x.tile(-1, 0), PushTray.UNKNOWN);
        Check.due("tile(0, 0) without a tray", new PushTray().tile(0, 0), PushTray.UNKNOWN);
        Check.due("tile(0, 7)", x.tile(0, 7), PushTray.OUTSIDE);
        Check.due("tile(0, -1)", x.tile(0, -1), PushTray.OUTSIDE);
        Check.due("tile(5, 7)", x.tile(5, 7), PushTray.UNKNOWN);
    }

    private static void asSuch() {
        Doc.promise(7, "A TILE taken as a KIND: its number");
        PushTray x = Check.tray(TEXT);
        for (int tile = 0; tile < 5; tile++) {
            Check.due("as(" + tile + ", " + tile + "), its own kind", x.as(tile, tile), tile);
            Check.due("as(" + tile + ", 0): all are tiles", x.as(tile, 0), tile);
        }
        Check.due("as(4, 1): a stone is heavy, too", x.as(4, 1), 4);
    }

    private static void asNoneSuch() {
        Doc.promise(7, "NONE: it is none such (the cast fails)");
        PushTray x = Check.tray(TEXT);
        for (int tile = 0; tile < 5; tile++) {
            for (int kind = 1; kind < 5; kind++) {
                if (kind != tile && !(tile == 4 && kind == 1)) {
                    Check.due("as(" + tile + ", " + kind + ")", x.as(tile, kind), PushTray.NONE);
                }
            }
        }
    }

    private static void asRefused() {
        Doc.promise(7, "UNKNOWN (also without a TRAY)");
        Doc.promise(7, "OUTSIDE");
        PushTray x = Check.tray(TEXT);
        Check.due("as(5, 0)", x.as(5, 0), PushTray.UNKNOWN);
        Check.due("as(-1, 0)", x.as(-1, 0), PushTray.UNKNOWN);
        Check.due("as(0, 0) without a tray", new PushTray().as(0, 0), PushTray.UNKNOWN);
        Check.due("as(0, 5)", x.as(0, 5), PushTray.OUTSIDE);
        Check.due("as(0, -1)", x.as(0, -1), PushTray.OUTSIDE);
        Check.due("as(5, 5)", x.as(5, 5), PushTray.UNKNOWN);
    }

    private static void cellsAre(PushTray x, int what, int... due) {
        for (int cell = 0; cell < 6; cell++) {
            Check.due("cell(" + cell + ", " + what + ")", x.cell(cell, what), due[cell]);
        }
    }

    private static void cellTile() {
        Doc.promise(8, "Of a CELL: what = 0 the TILE in it");
        Doc.promise(8, "1 that in the GOAL (NONE: FREE, for both)");
        PushTray x = Check.tray(TEXT);
        cellsAre(x, 0, 0, 1, PushTray.NONE, 2, 3, 4);
        cellsAre(x, 1, 4, 1, 2, 3, PushTray.NONE, 0);
    }

    private static void cellNext() {
        Doc.promise(8, "2 whether it is NEXT to the FREE one (1, 0)");
        PushTray x = Check.tray(TEXT);
        // Cell 3 follows cell 2 but lies in the other row, at its other end; the free cell is not next to itself.
        cellsAre(x, 2, 0, 1, 0, 0, 0, 1);
        x.push(1);
        cellsAre(x, 2, 1, 0, 1, 0, 1, 0);
    }

    private static void cellRefused() {
        Doc.promise(8, "UNKNOWN (also without a TRAY)");
        Doc.promise(8, "OUTSIDE");
        PushTray x = Check.tray(TEXT);
        Check.due("cell(6, 0)", x.cell(6, 0), PushTray.UNKNOWN);
        Check.due("cell(-1, 0)", x.cell(-1, 0), PushTray.UNKNOWN);
        Check.due("cell(0, 0) without a tray", new PushTray().cell(0, 0), PushTray.UNKNOWN);
        Check.due("cell(0, 3)", x.cell(0, 3), PushTray.OUTSIDE);
        Check.due("cell(0, -1)", x.cell(0, -1), PushTray.OUTSIDE);
        Check.due("cell(6, 3)", x.cell(6, 3), PushTray.UNKNOWN);
    }
}
