/** Promises 9 to 12: push, exchange, aim, recast. */
final class DoneTest {
    private DoneTest() {
    }

    public static void main(String[] args) {
        push();
        pushRefused();
        pushesAreBounded();
        exchange();
        aim();
        cellsRefused();
        recast();
        recastRefused();
        Check.end();
    }

    private static void push() {
        PushTray x = Check.tray("01.234;thnso;01.234");
        Check.due("push of a stone", x.push(4), 3);
        Check.liesAs("push(4)", x, 0, "01423.");
        Check.due("push of a shy one in its row", x.push(3), 1);
        Check.liesAs("push(3)", x, 0, "0142.3");
        Check.due("push of a heavy one", x.push(1), 2);
        Check.liesAs("push(1)", x, 0, "0.4213");
        Check.due("push of a tile", x.push(0), 1);
        Check.liesAs("push(0)", x, 0, ".04213");
        Check.due("pushes", x.count(2), 4);
        Check.due("costs", x.count(3), 7);
        Check.liesAs("push leaves the goal", x, 1, "01.234");
    }

    private static void pushRefused() {
        PushTray x = Check.tray("01.234;thnso;01.234");
        int[] none = {-1, 5, Integer.MIN_VALUE, Integer.MAX_VALUE};
        for (int tile : none) {
            Check.refused(x, "push(" + tile + ")", () -> x.push(tile), PushTray.UNKNOWN);
        }
        Check.refused(x, "push from afar", () -> x.push(0), PushTray.STATE);
        Check.refused(x, "push over the edge, from cell 3 to cell 2", () -> x.push(2), PushTray.STATE);
        PushTray nailed = Check.tray("01.234;tnttn;01.234");
        Check.refused(nailed, "push of a nailed one in its row", () -> nailed.push(1), PushTray.STATE);
        Check.refused(nailed, "push of a nailed one up", () -> nailed.push(4), PushTray.STATE);
        PushTray shy = Check.tray("01.234;tttts;01.234");
        Check.refused(shy, "push of a shy one up", () -> shy.push(4), PushTray.STATE);
        PushTray down = Check.tray("01423.;tttts;01423.");
        Check.refused(down, "push of a shy one down", () -> down.push(4), PushTray.STATE);
    }

    /** Nothing is promised of so many calls of one object: this shows but that the bound stands in the program. */
    private static void pushesAreBounded() {
        PushTray x = Check.tray("01.234;thnso;01.234");
        for (int pushes = 0; pushes < 999; pushes++) {
            Check.due("push " + pushes, x.push(1), 2);
        }
        Check.refused(x, "push 1000", () -> x.push(1), PushTray.FULL);
        Check.refused(x, "push 1000 of one that cannot be", () -> x.push(3), PushTray.STATE);
        Check.due("costs", x.count(3), 1998);
    }

    private static void exchange() {
        PushTray x = Check.tray("01.234;nnnnn;0123.4");
        Check.due("exchange(0, 5)", x.exchange(0, 5), 2);
        Check.liesAs("exchange(0, 5)", x, 0, "41.230");
        Check.due("exchange(2, 3)", x.exchange(2, 3), 3);
        Check.liesAs("exchange(2, 3)", x, 0, "412.30");
        Check.due("exchange(4, 3)", x.exchange(4, 3), 4);
        Check.liesAs("exchange(4, 3)", x, 0, "4123.0");
        Check.due("exchange(5, 0)", x.exchange(5, 0), 4);
        Check.liesAs("exchange(5, 0)", x, 0, "0123.4");
        Check.liesAs("exchange leaves the goal", x, 1, "0123.4");
        Check.due("pushes", x.count(2), 0);
        Check.due("costs", x.count(3), 0);
    }

    private static void aim() {
        PushTray x = Check.tray("01.234;nnnnn;0123.4");
        Check.due("aim(4, 0)", x.aim(4, 0), 0);
        Check.liesAs("aim(4, 0)", x, 1, ".12304");
        Check.due("aim(1, 2)", x.aim(1, 2), 0);
        Check.liesAs("aim(1, 2)", x, 1, ".21304");
        Check.liesAs("aim leaves the tray", x, 0, "01.234");
        Check.due("free in the goal", x.count(1), 0);
        Check.due("free", x.count(0), 2);
    }

    private static void cellsRefused() {
        PushTray x = Check.tray("01.234;thnso;0123.4");
        int[][] pairs = {{-1, 0}, {0, -1}, {6, 0}, {0, 6}, {0, 0}, {5, 5}, {6, 6}, {-1, -1},
            {Integer.MAX_VALUE, 1}, {1, Integer.MIN_VALUE}};
        for (int[] pair : pairs) {
            String cells = "(" + pair[0] + ", " + pair[1] + ")";
            Check.refused(x, "exchange" + cells, () -> x.exchange(pair[0], pair[1]), PushTray.UNKNOWN);
            Check.refused(x, "aim" + cells, () -> x.aim(pair[0], pair[1]), PushTray.UNKNOWN);
        }
    }

    private static void recast() {
        PushTray x = Check.tray("01.234;thnso;01.234");
        Check.due("recast(1, 4)", x.recast(1, 4), 1);
        Check.due("recast(1, 2)", x.recast(1, 2), 4);
        Check.due("price when nailed", x.tile(1, 3), PushTray.NONE);
        Check.due("recast(1, 2) again", x.recast(1, 2), 2);
        Check.due("recast(4, 0)", x.recast(4, 0), 4);
        Check.due("recast(0, 3)", x.recast(0, 3), 0);
        int[] kinds = {3, 2, 2, 3, 0};
        for (int tile = 0; tile < 5; tile++) {
            Check.due("kind of " + tile, x.tile(tile, 0), kinds[tile]);
        }
        Check.due("push of what was a stone", x.push(4), 1);
        Check.due("what can be come to then", x.reach(0), 3);
    }

    private static void recastRefused() {
        PushTray x = Check.tray("01.234;thnso;01.234");
        Check.refused(x, "recast(5, 0)", () -> x.recast(5, 0), PushTray.UNKNOWN);
        Check.refused(x, "recast(-1, 9)", () -> x.recast(-1, 9), PushTray.UNKNOWN);
        Check.refused(x, "recast(0, 5)", () -> x.recast(0, 5), PushTray.OUTSIDE);
        Check.refused(x, "recast(0, -1)", () -> x.recast(0, -1), PushTray.OUTSIDE);
        Check.refused(x, "recast(0, 8)", () -> x.recast(0, 8), PushTray.OUTSIDE);
    }
}
