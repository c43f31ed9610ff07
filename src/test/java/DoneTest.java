/** Promises 9 to 12: push, exchange, aim, recast. */
final class DoneTest {
    private DoneTest() {
    }

    public static void main(String[] args) {
        push();
        exchange();
        aim();
        recast();
        Check.end();
    }

    private static void push() {
        PushTray x = Check.tray("01.234;thnso;01.234");
        Check.due("push of a stone", x.push(4), 3);
        Check.liesAs("push(4)", x, 0, "01423.");
        Check.due("push of a shy one in its row", x.push(3), 1);
        Check.liesAs("push(3)", x, 0, "0142.3");
        Check.due("push of a heavy one", x.push(1), 2);
        Check.liesAs("push(1)", x, 0, "0.4213");
        Check.due("push of a tile", x.push(0), 1);
        Check.liesAs("push(0)", x, 0, ".04213");
        Check.due("pushes", x.count(2), 4);
        Check.due("costs", x.count(3), 7);
        Check.liesAs("push leaves the goal", x, 1, "01.234");
    }

    private static void exchange() {
        PushTray x = Check.tray("01.234;nnnnn;0123.4");
        Check.due("exchange(0, 5)", x.exchange(0, 5), 2);
        Check.liesAs("exchange(0, 5)", x, 0, "41.230");
        Check.due("exchange(2, 3)", x.exchange(2, 3), 3);
        Check.liesAs("exchange(2, 3)", x, 0, "412.30");
        Check.due("exchange(4, 3)", x.exchange(4, 3), 4);
        Check.liesAs("exchange(4, 3)", x, 0, "4123.0");
        Check.due("exchange(5, 0)", x.exchange(5, 0), 4);
        Check.liesAs("exchange(5, 0)", x, 0, "0123.4");
        Check.liesAs("exchange leaves the goal", x, 1, "0123.4");
        Check.due("pushes", x.count(2), 0);
        Check.due("costs", x.count(3), 0);
    }

    private static void aim() {
        PushTray x = Check.tray("01.234;nnnnn;0123.4");
        Check.due("aim(4, 0)", x.aim(4, 0), 0);
        Check.liesAs("aim(4, 0)", x, 1, ".12304");
        Check.due("aim(1, 2)", x.aim(1, 2), 0);
        Check.liesAs("aim(1, 2)", x, 1, ".21304");
        Check.liesAs("aim leaves the tray", x, 0, "01.234");
        Check.due("free in the goal", x.count(1), 0);
        Check.due("free", x.count(0), 2);
    }

    private static void recast() {
        PushTray x = Check.tray("01.234;thnso;01.234");
        Check.due("recast(1, 4)", x.recast(1, 4), 1);
        Check.due("recast(1, 2)", x.recast(1, 2), 4);
        Check.due("price when nailed", x.tile(1, 3), PushTray.NONE);
        Check.due("recast(1, 2) again", x.recast(1, 2), 2);
        Check.due("recast(4, 0)", x.recast(4, 0), 4);
        Check.due("recast(0, 3)", x.recast(0, 3), 0);
        int[] kinds = {3, 2, 2, 3, 0};
        for (int tile = 0; tile < 5; tile++) {
            Check.due("kind of " + tile, x.tile(tile, 0), kinds[tile]);
        }
        Check.due("push of what was a stone", x.push(4), 1);
        Check.due("what can be come to then", x.reach(0), 3);
    }
}
