/** Promises 1 to 5: a new object, letter, blank, fault, tray. */
final class TrayTextTest {
    private static final String GOOD = "01234.;thnso;0123.4";

    private TrayTextTest() {
    }

    public static void main(String[] args) {
        newObject();
        letter();
        blank();
        faultOfSigns();
        faultOfKinds();
        faultOfGoal();
        tray();
        Check.end();
    }

    private static void newObject() {
        PushTray x = new PushTray();
        int[] counts = {-1, -1, 0, 0, 0, 0, 0, 0, 0, 0};
        for (int what = 0; what < counts.length; what++) {
            Check.due("new: count(" + what + ")", x.count(what), counts[what]);
        }
        Check.due("new: tile", x.tile(0, 0), PushTray.UNKNOWN);
        Check.due("new: as", x.as(0, 0), PushTray.UNKNOWN);
        Check.due("new: cell", x.cell(0, 0), PushTray.UNKNOWN);
        Check.due("new: push", x.push(0), PushTray.UNKNOWN);
        Check.due("new: exchange", x.exchange(0, 1), PushTray.UNKNOWN);
        Check.due("new: aim", x.aim(0, 1), PushTray.UNKNOWN);
        Check.due("new: recast", x.recast(0, 0), PushTray.UNKNOWN);
        Check.due("new: least", x.least(0), PushTray.STATE);
        Check.due("new: reach", x.reach(0), PushTray.STATE);
        Check.due("new: home", x.home(0, 0), PushTray.UNKNOWN);
        Check.due("new: swaps", x.swaps(), PushTray.STATE);
        Check.due("new: cheap", x.cheap(0), PushTray.STATE);
        Check.due("new: odds", x.odds(0, 0, 1, 0), PushTray.UNKNOWN);
        Check.due("new: see", x.see(0, 0, 0), PushTray.UNKNOWN);
        Check.due("new: forget", x.forget(), 0);
        Check.due("new: runs", x.runs(1, 0, 0), PushTray.STATE);
        Check.due("new: image", x.image(), PushTray.STATE);
        Check.due("new: restore", x.restore(), PushTray.STATE);
        Check.due("new: fault", x.fault(), 0);
        Check.due("new: blank", x.blank(), 0);
        Check.due("new: tray", x.tray(), PushTray.STATE);
    }

    private static void letter() {
        PushTray x = new PushTray();
        Check.due("letter(32)", x.letter(32), 1);
        Check.due("letter(126)", x.letter(126), 2);
        for (int many = 3; many <= 22; many++) {
            Check.due("letter " + many, x.letter('x'), many);
        }
        Check.due("letters", x.count(7), 22);
    }

    private static void blank() {
        PushTray x = new PushTray();
        Check.write(x, "abc");
        Check.due("blank()", x.blank(), 3);
        Check.due("blank() again", x.blank(), 0);
        Check.due("letters", x.count(7), 0);
        Check.due("the first letter again", x.letter('0'), 1);
    }

    private static void fault(String text, int want) {
        PushTray x = new PushTray();
        Check.write(x, text);
        Check.due("fault() of " + text, x.fault(), want);
        Check.due("letters behind fault() of " + text, x.count(7), text.length());
    }

    private static void faultOfSigns() {
        fault("", 0);
        fault("0", 1);
        fault("5", 0);
        fault("/", 0);
        fault(";", 0);
        fault("t", 0);
        fault("00", 1);
        fault(".1.", 2);
        fault("43210", 5);
        fault("432104", 5);
        fault("43210.", 6);
        fault("43210.0", 6);
        fault("43210..", 6);
        fault("43210.:", 6);
    }

    private static void faultOfKinds() {
        fault("43210.;", 7);
        fault("43210.;;", 7);
        fault("43210.;T", 7);
        fault("43210.;0", 7);
        fault("43210.;ooooo", 12);
        fault("43210.;thnsa", 11);
        fault("43210.;thnst0", 12);
        fault("43210.;thnstt", 12);
    }

    private static void faultOfGoal() {
        fault("43210.;thnst;", 13);
        fault("43210.;thnst;5", 13);
        fault("43210.;thnst;;", 13);
        fault("43210.;thnst;4", 14);
        fault("43210.;thnst;44", 14);
        fault("43210.;thnst;4321..", 18);
        fault("43210.;thnst;4321.", 18);
        fault("43210.;thnst;4321.0", 19);
        fault("43210.;thnst;4321.00", 19);
        fault("43210.;thnst;4321.0;;;", 19);
        fault("43210.;thnst;4421.0;;;", 14);
    }

    private static void tray() {
        PushTray x = new PushTray();
        Check.write(x, GOOD);
        Check.due("tray()", x.tray(), 5);
        Check.due("the page is empty", x.count(7), 0);
        Check.due("trays read", x.count(8), 1);
        Check.liesAs("tray()", x, 0, "01234.");
        Check.liesAs("tray()", x, 1, "0123.4");
        for (int tile = 0; tile < 5; tile++) {
            Check.due("kind of " + tile, x.tile(tile, 0), tile);
        }
        Check.tray(".01234;ooooo;43210.");
        Check.tray("0.1234;sssss;.43210");
    }
}
