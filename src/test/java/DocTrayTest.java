/** Each sentence of promises 1 to 5, and of the form of a tray. */
final class DocTrayTest {
    private DocTrayTest() {
    }

    public static void main(String[] args) {
        firstSigns();
        kinds();
        goal();
        newObject();
        letterComesBehind();
        letterOutside();
        letterFull();
        blank();
        faultPlace();
        faultNone();
        trayIsRead();
        trayEmptiesThePage();
        trayState();
        Doc.promisesAreHeld(1, 5);
        Check.end();
    }

    private static void isNoTray(String text) {
        PushTray x = new PushTray();
        Check.write(x, text);
        Check.due("tray() of " + text, x.tray(), PushTray.STATE);
    }

    private static void firstSigns() {
        Doc.whatItIs("A TRAY is a text: six signs, what is in CELLS 0, 1, 2 (the upper row, west to east), "
            + "3, 4, 5 (the lower one), each a digit, the number of a TILE (0 to 4), or \".\" (it is FREE), each of these once");
        PushTray x = Check.tray("20.413;ttttt;01234.");
        int[] due = {2, 0, PushTray.NONE, 4, 1, 3};
        for (int cell = 0; cell < 6; cell++) {
            Check.due("cell(" + cell + ", 0)", x.cell(cell, 0), due[cell]);
        }
        isNoTray("20.415;ttttt;01234.");
        isNoTray("20.412;ttttt;01234.");
        isNoTray("20.41.;ttttt;01234.");
    }

    private static void kinds() {
        Doc.whatItIs("\";\"; five letters, the KINDS of TILES 0 to 4");
        PushTray x = Check.tray("20.413;osnht;01234.");
        int[] due = {4, 3, 2, 1, 0};
        for (int tile = 0; tile < 5; tile++) {
            Check.due("tile(" + tile + ", 0)", x.tile(tile, 0), due[tile]);
        }
        isNoTray("20.413:osnht;01234.");
        isNoTray("20.413;osnhx;01234.");
        isNoTray("20.413;osnh;01234.t");
    }

    private static void goal() {
        Doc.whatItIs("\";\"; six signs, the GOAL, as the first ones.");
        PushTray x = Check.tray("20.413;ttttt;314.02");
        int[] due = {3, 1, 4, PushTray.NONE, 0, 2};
        for (int cell = 0; cell < 6; cell++) {
            Check.due("cell(" + cell + ", 1)", x.cell(cell, 1), due[cell]);
        }
        isNoTray("20.413;ttttt:314.02");
        isNoTray("20.413;ttttt;314.05");
        isNoTray("20.413;ttttt;314.03");
        isNoTray("20.413;ttttt;314..2");
    }

    private static void newObject() {
        Doc.promise(1, "No TRAY.");
        PushTray x = new PushTray();
        Check.due("count(0) of a new object", x.count(0), PushTray.NONE);
        Check.due("count(8) of a new object", x.count(8), 0);
        Check.due("tile() of a new object", x.tile(0, 0), PushTray.UNKNOWN);
        Check.due("swaps() of a new object", x.swaps(), PushTray.STATE);
    }

    private static void letterComesBehind() {
        Doc.promise(2, "A letter comes behind THE PAGE, told by its code: how many THE PAGE has.");
        PushTray x = new PushTray();
        Check.due("letter('4')", x.letter(52), 1);
        Check.due("letter('.')", x.letter(46), 2);
        Check.due("letter('~')", x.letter(126), 3);
        Check.due("fault(): it came behind the others", x.fault(), 2);
    }

    private static void letterOutside() {
        Doc.promise(2, "OUTSIDE: code (32 to 126)");
        PushTray x = new PushTray();
        Check.due("letter(31)", x.letter(31), PushTray.OUTSIDE);
        Check.due("letter(127)", x.letter(127), PushTray.OUTSIDE);
        Check.due("letter(32)", x.letter(32), 1);
        Check.due("letter(126)", x.letter(126), 2);
    }

    private static void letterFull() {
        Doc.promise(2, "FULL: above 22");
        PushTray x = new PushTray();
        for (int many = 1; many <= 22; many++) {
            Check.due("letter " + many, x.letter('.'), many);
        }
        Check.due("letter 23", x.letter('.'), PushTray.FULL);
        Check.due("letters", x.count(7), 22);
    }

    private static void blank() {
        Doc.promise(3, "THE PAGE is empty: how many letters it had.");
        PushTray x = new PushTray();
        Check.write(x, "????");
        Check.due("blank()", x.blank(), 4);
        Check.due("letters", x.count(7), 0);
        Check.write(x, "01234.;thnso;01234.");
        Check.due("tray() of what came behind blank()", x.tray(), 5);
    }

    private static void faultIs(String text, int place) {
        PushTray x = new PushTray();
        Check.write(x, text);
        Check.due("fault() of " + text, x.fault(), place);
    }

    private static void faultPlace() {
        Doc.promise(4, "The place (from 0) of the first letter of THE PAGE that no TRAY has there, behind those ahead of it");
        faultIs("t", 0);
        faultIs("013;", 3);
        faultIs("0131", 3);
        faultIs("01324.t;;", 6);
        faultIs("01324.;tthx;", 10);
        faultIs("01324.;tthoo.", 12);
        faultIs("01324.;tthoo;42.2", 16);
        faultIs("01324.;tthoo;42.013;", 19);
    }

    private static void faultNone() {
        Doc.promise(4, "how many letters it has, if there is none");
        String text = "31.420;ohsnt;.42013";
        for (int length = 0; length <= 19; length++) {
            faultIs(text.substring(0, length), length);
        }
    }

    private static void trayIsRead() {
        Doc.promise(5, "THE PAGE is read as THE TRAY (another one is gone, with all that was): where it is FREE");
        PushTray x = Check.tray("01.234;thnso;0123.4");
        x.push(4);
        x.see(0, 0, 1);
        x.image();
        Check.write(x, "3.0142;ttttt;0123.4");
        Check.due("tray() of another one", x.tray(), 1);
        Check.liesAs("tray() of another one", x, 0, "3.0142");
        Check.due("kind of tile 4", x.tile(4, 0), 0);
        Check.due("pushes", x.count(2), 0);
        Check.due("costs", x.count(3), 0);
        Check.due("seen", x.count(6), 0);
        Check.due("sorts of tile 0", x.tile(0, 4), 31);
        Check.due("restore()", x.restore(), PushTray.STATE);
    }

    private static void trayEmptiesThePage() {
        Doc.promise(5, "THE PAGE is empty then");
        PushTray x = Check.tray("01.234;thnso;0123.4");
        Check.due("letters", x.count(7), 0);
        Check.due("letter() behind tray()", x.letter('?'), 1);
    }

    private static void trayState() {
        Doc.promise(5, "STATE: it is none");
        isNoTray("");
        isNoTray("01.234;thnso;0123.");
        isNoTray("01.234;thnso;0123.4;");
        isNoTray("01.234;thnsx;0123.4");
        PushTray x = Check.tray("01.234;thnso;0123.4");
        Check.write(x, "no");
        Check.due("tray() of no tray", x.tray(), PushTray.STATE);
        Check.due("letters are left", x.count(7), 2);
        Check.liesAs("the tray is left", x, 0, "01.234");
    }
}
