/** Each sentence of promises 22 to 25. */
final class DocWholeTest {
    private static final String TEXT = "01.234;thnso;0123.4";

    private DocWholeTest() {
    }

    public static void main(String[] args) {
        image();
        imageState();
        restore();
        restoreState();
        countFree();
        countPushes();
        countWhatCanGo();
        countAlike();
        countSeen();
        countLetters();
        countTrays();
        countCheaps();
        countOutside();
        digest();
        Doc.promisesAreHeld(22, 25);
        Check.end();
    }

    private static void image() {
        Doc.promise(22, "An IMAGE is kept (one; the latest): how many PUSHES there were.");
        PushTray x = Check.tray(TEXT);
        Check.due("image() of no push", x.image(), 0);
        x.push(4);
        x.push(3);
        Check.due("image() of two", x.image(), 2);
        x.push(3);
        x.restore();
        Check.liesAs("the latest image", x, 0, "0142.3");
    }

    private static void imageState() {
        Doc.promise(22, "STATE: no TRAY.");
        Check.due("image() without a tray", new PushTray().image(), PushTray.STATE);
    }

    private static void restore() {
        Doc.promise(23, "It goes on from the IMAGE: how many PUSHES there were.");
        PushTray x = Check.tray(TEXT);
        x.push(4);
        x.image();
        x.push(3);
        x.push(1);
        Check.due("restore()", x.restore(), 1);
        Check.liesAs("restore()", x, 0, "01423.");
        Check.due("pushes", x.count(2), 1);
        Check.due("costs", x.count(3), 3);
        x.push(4);
        Check.due("pushes, as it went on", x.count(2), 2);
        Check.due("restore() again", x.restore(), 1);
    }

    private static void restoreState() {
        Doc.promise(23, "STATE: none was kept, or a TRAY was read since (of the same text, too).");
        PushTray x = Check.tray(TEXT);
        Check.due("restore() of none", x.restore(), PushTray.STATE);
        x.image();
        Check.write(x, TEXT);
        x.tray();
        Check.due("restore() behind the same tray", x.restore(), PushTray.STATE);
        x.image();
        Check.due("restore() of a new image", x.restore(), 0);
        Check.due("restore() without a tray", new PushTray().restore(), PushTray.STATE);
    }

    private static void countIs(String call, PushTray x, int what, int due) {
        Check.due("count(" + what + ") " + call, x.count(what), due);
    }

    private static void countFree() {
        Doc.promise(24, "How many: 0 the FREE CELL, 1 that in the GOAL (NONE for both: no TRAY)");
        PushTray x = Check.tray(TEXT);
        countIs("of a tray", x, 0, 2);
        countIs("of a tray", x, 1, 4);
        x.push(4);
        x.aim(4, 0);
        countIs("behind a push", x, 0, 5);
        countIs("behind another aim", x, 1, 0);
        countIs("without a tray", new PushTray(), 0, PushTray.NONE);
        countIs("without a tray", new PushTray(), 1, PushTray.NONE);
    }

    private static void countPushes() {
        Doc.promise(24, "2 PUSHES, 3 what they COST");
        PushTray x = Check.tray(TEXT);
        countIs("of none", x, 2, 0);
        countIs("of none", x, 3, 0);
        x.push(4);
        x.push(3);
        x.push(0);
        x.exchange(0, 5);
        countIs("of two, one refused and an exchange", x, 2, 2);
        countIs("of two, one refused and an exchange", x, 3, 3 + 1);
    }

    private static void countWhatCanGo() {
        Doc.promise(24, "4 TILES that can be PUSHED now");
        countIs("of a heavy one and a stone", Check.tray(TEXT), 4, 2);
        countIs("with the stone nailed", Check.tray("01.234;thnsn;0123.4"), 4, 1);
        countIs("with the stone shy, below", Check.tray("01.234;thnss;0123.4"), 4, 1);
        countIs("with three round it", Check.tray("0.1234;thnso;0123.4"), 4, 2);
        countIs("with three round it, plain", Check.tray("0.1234;ttttt;0123.4"), 4, 3);
        countIs("with all nailed", Check.tray("0.1234;nnnnn;0123.4"), 4, 0);
    }

    private static void countAlike() {
        Doc.promise(24, "5 CELLS that hold what they do in the GOAL");
        countIs("in cells 0, 1, 5", Check.tray(TEXT), 5, 3);
        countIs("in all", Check.tray("01.234;thnso;01.234"), 5, 6);
        countIs("in none", Check.tray("01.234;thnso;104.23"), 5, 0);
    }

    private static void countSeen() {
        Doc.promise(24, "6 what is SEEN");
        PushTray x = Check.tray(TEXT);
        countIs("of nothing", x, 6, 0);
        x.see(0, 0, 1);
        x.see(0, 0, 1);
        countIs("of the same, twice", x, 6, 2);
    }

    private static void countLetters() {
        Doc.promise(24, "7 letters of THE PAGE");
        PushTray x = new PushTray();
        countIs("of none", x, 7, 0);
        Check.write(x, "abc");
        countIs("of three", x, 7, 3);
    }

    private static void countTrays() {
        Doc.promise(24, "8 how often a TRAY was read");
        PushTray x = Check.tray(TEXT);
        countIs("of one", x, 8, 1);
        x.tray();
        countIs("of one, and a page that is none", x, 8, 1);
        Check.write(x, TEXT);
        x.tray();
        countIs("of two", x, 8, 2);
    }

    private static void countCheaps() {
        Doc.promise(24, "9 how often cheap() was done");
        PushTray x = Check.tray(TEXT);
        x.image();
        x.cheap(0);
        x.cheap(1);
        x.cheap(2);
        x.restore();
        countIs("of two, one refused and restore()", x, 9, 2);
        Check.write(x, TEXT);
        x.tray();
        countIs("behind another tray", x, 9, 2);
    }

    private static void countOutside() {
        Doc.promise(24, "OUTSIDE");
        Check.due("count(10)", Check.tray(TEXT).count(10), PushTray.OUTSIDE);
        Check.due("count(-1)", Check.tray(TEXT).count(-1), PushTray.OUTSIDE);
        Check.due("count(10) without a tray", new PushTray().count(10), PushTray.OUTSIDE);
    }

    private static long mixed(long start, long... numbers) {
        long h = start;
        for (long number : numbers) {
            h = 31 * h + number;
        }
        return h;
    }

    private static long tilesMixed(PushTray x, long start) {
        Doc.promise(25, "with a TRAY of each TILE what tile() tells for 0 to 6, home() of CELL 0, "
            + "odds() of CELL 4 in 3 PUSHES for 0 and 1");
        long h = start;
        for (int tile = 0; tile < 5; tile++) {
            h = mixed(h, x.tile(tile, 0), x.tile(tile, 1), x.tile(tile, 2), x.tile(tile, 3), x.tile(tile, 4),
                x.tile(tile, 5), x.tile(tile, 6), x.home(tile, 0), x.odds(tile, 4, 3, 0), x.odds(tile, 4, 3, 1));
        }
        return h;
    }

    private static long cellsMixed(PushTray x, long start) {
        Doc.promise(25, "of each CELL what cell() tells for 0 to 2");
        long h = start;
        for (int cell = 0; cell < 6; cell++) {
            h = mixed(h, x.cell(cell, 0), x.cell(cell, 1), x.cell(cell, 2));
        }
        return h;
    }

    /** The page holds letters on purpose, and each of the numbers is another than its neighbours' in most places. */
    private static void digest() {
        Doc.promise(25, "h is 1291, then for each of these numbers, in order, 31 times h, and it (as longs, wrapping)");
        PushTray x = Check.tray("3.4210;thtto;3201.4");
        x.push(3);
        x.see(1, 0, 1);
        x.cheap(0);
        Check.write(x, "a~");
        long h = cellsMixed(x, tilesMixed(x, 1291));
        Doc.promise(25, "what least() tells for 0 to 2, reach() for 0 and 1, swaps()");
        h = mixed(h, x.least(0), x.least(1), x.least(2), x.reach(0), x.reach(1), x.swaps());
        Doc.promise(25, "letters of THE PAGE, each by its code");
        h = mixed(h, 97, 126);
        Doc.promise(25, "what count() tells for 0 to 9");
        long[] counts = {0, 4, 1, 1, x.count(4), x.count(5), 1, 2, 1, 1};
        Check.due("digest()", x.digest(), mixed(h, counts));
        PushTray none = new PushTray();
        Check.write(none, "a~");
        Check.due("digest() without a tray", none.digest(), mixed(1291, 97, 126, -1, -1, 0, 0, 0, 0, 0, 2, 0, 0));
    }
}
