import java.util.Arrays;

/** The boundaries of promises 1 to 5: no tray, codes, the page empty and full, each place of a tray's text. */
final class EdgeTextTest {
    private static final String[] TEXTS = {Edges.TEXT, "4.0213;ooooo;.43210", "43210.;nsnsn;43201."};

    private EdgeTextTest() {
    }

    public static void main(String[] args) {
        codes();
        fullPage();
        blank();
        faultOfNoLetters();
        faultAtEachPlace();
        faultBehindTheLastPlace();
        trayOfEachLength();
        trayWithEachLetterAtEachPlace();
        trayRefused();
        freeInEachCell();
        anotherTrayOverAll();
        asManyTraysAsCallsAllow();
        Check.end();
    }

    // ---- 2: "OUTSIDE: code (32 to 126); FULL: above 22"

    private static void codes() {
        for (int code : Edges.beyond(32, 126)) {
            Edges.refused("letter(" + code + ")", x -> x.letter(code), PushTray.OUTSIDE, Edges.ALL);
        }
        int[] inside = {32, 33, 125, 126};
        for (int code : inside) {
            for (Edges.Made made : new Edges.Made[] {Edges.Made.NEW, Edges.Made.READ}) {
                PushTray x = made.make();
                Check.due("letter(" + code + ") of " + made, x.letter(code), 1);
                Check.due("letters behind letter(" + code + ") of " + made, x.count(7), 1);
            }
        }
    }

    private static void fullPage() {
        for (Edges.Made made : new Edges.Made[] {Edges.Made.NEW, Edges.Made.READ}) {
            PushTray x = made.make();
            for (int many = 1; many <= 22; many++) {
                Check.due("letter " + many + " of " + made, x.letter(126), many);
            }
            Check.due("letter 23 of " + made, x.letter(126), PushTray.FULL);
            Check.due("letter 23 again of " + made, x.letter(32), PushTray.FULL);
            Check.due("letters of " + made, x.count(7), 22);
            Check.due("blank() of a full page of " + made, x.blank(), 22);
            Check.due("letter 1 again of " + made, x.letter(126), 1);
        }
        int[] inside = {32, '0', ';', 126};
        for (int code : inside) {
            Edges.refused("letter(" + code + ")", x -> x.letter(code), PushTray.FULL, Edges.Made.FULL_PAGE, Edges.Made.FULL);
        }
    }

    // ---- 3: "how many letters it had": none, and as many as go

    private static void blank() {
        int[] had = {0, 3, 22, 0, 2, 22};
        for (Edges.Made made : Edges.ALL) {
            PushTray x = made.make();
            int[] before = counts(x);
            Check.due("blank() of " + made, x.blank(), had[made.ordinal()]);
            Check.due("blank() again of " + made, x.blank(), 0);
            before[7] = 0;
            Check.isTrue("blank() of " + made + " leaves all else", Arrays.equals(counts(x), before));
            Check.due("fault() behind blank() of " + made, x.fault(), 0);
            Check.due("tray() behind blank() of " + made, x.tray(), PushTray.STATE);
        }
    }

    private static int[] counts(PushTray x) {
        int[] counts = new int[10];
        for (int what = 0; what < counts.length; what++) {
            counts[what] = x.count(what);
        }
        return counts;
    }

    // ---- 4: "the first letter that no TRAY has there, behind those ahead of it"

    private static void faultOfNoLetters() {
        Check.due("fault() of NEW", Edges.Made.NEW.make().fault(), 0);
        Check.due("fault() of READ", Edges.Made.READ.make().fault(), 0);
    }

    /** Whether a tray can go on with this letter behind a beginning of one. */
    private static boolean goesOn(String text, int place, char letter) {
        if (place == 6 || place == 12) {
            return letter == ';';
        }
        if (place > 6 && place < 12) {
            return "thnso".indexOf(letter) >= 0;
        }
        String ahead = text.substring(place < 6 ? 0 : 13, place);
        return "01234.".indexOf(letter) >= 0 && ahead.indexOf(letter) < 0;
    }

    /** Each code at each place; what comes behind a wrong one, right or wrong, is not looked at. */
    private static void faultAtEachPlace() {
        for (String text : TEXTS) {
            for (int place = 0; place < 19; place++) {
                for (char letter = 32; letter <= 126; letter++) {
                    PushTray x = new PushTray();
                    Check.write(x, text.substring(0, place) + letter);
                    boolean goes = goesOn(text, place, letter);
                    String call = "fault() of " + text.substring(0, place) + letter;
                    Check.due(call, x.fault(), goes ? place + 1 : place);
                    if (!goes) {
                        Check.write(x, "?" + text.substring(place));
                        Check.due(call + " and more", x.fault(), place);
                    }
                }
            }
        }
    }

    private static void faultBehindTheLastPlace() {
        for (char letter = 32; letter <= 126; letter++) {
            PushTray x = new PushTray();
            Check.write(x, Edges.TEXT);
            Check.due("fault() of a tray's text", x.fault(), 19);
            for (int many = 20; many <= 22; many++) {
                x.letter(letter);
                Check.due("fault() of " + many + " letters, then " + letter, x.fault(), 19);
            }
        }
    }

    // ---- 5: "STATE: it is none"

    private static void trayOfEachLength() {
        for (int length = 0; length <= 22; length++) {
            for (Edges.Made made : new Edges.Made[] {Edges.Made.NEW, Edges.Made.READ}) {
                PushTray x = made.make();
                Check.write(x, (Edges.TEXT + ";.0").substring(0, length));
                String call = "tray() of " + length + " letters of " + made;
                Check.due(call, x.tray(), length == 19 ? 2 : PushTray.STATE);
                Check.due(call + ": letters then", x.count(7), length == 19 ? 0 : length);
                Check.due(call + ": trays", x.count(8), (made == Edges.Made.READ ? 1 : 0) + (length == 19 ? 1 : 0));
            }
        }
    }

    private static void trayWithEachLetterAtEachPlace() {
        for (int place = 0; place < 19; place++) {
            for (char letter = 32; letter <= 126; letter++) {
                String text = Edges.TEXT.substring(0, place) + letter + Edges.TEXT.substring(place + 1);
                boolean isKind = place > 6 && place < 12 && "thnso".indexOf(letter) >= 0;
                boolean isTray = isKind || text.equals(Edges.TEXT);
                PushTray x = new PushTray();
                Check.write(x, text);
                Check.due("tray() of " + text, x.tray(), isTray ? 2 : PushTray.STATE);
                Check.due("letters behind tray() of " + text, x.count(7), isTray ? 0 : 19);
            }
        }
    }

    private static void trayRefused() {
        Edges.refused("tray() of no tray's text", x -> x.tray(), PushTray.STATE, Edges.ALL);
    }

    private static void freeInEachCell() {
        String[] lies = {".01234", "0.1234", "01.234", "012.34", "0123.4", "01234."};
        for (int now = 0; now < lies.length; now++) {
            for (int then = 0; then < lies.length; then++) {
                PushTray x = new PushTray();
                Check.write(x, lies[now] + ";tttst;" + lies[then]);
                Check.due("tray() free in " + now, x.tray(), now);
                Check.due("free in " + now, x.count(0), now);
                Check.due("free in the goal in " + then, x.count(1), then);
            }
        }
    }

    /** "another one is gone, with all that was": as on a new object, but for how often trays were read and cheap() was done. */
    private static void anotherTrayOverAll() {
        int[] cheaps = {0, 0, 0, 0, 1, 20};
        for (Edges.Made made : Edges.ALL) {
            PushTray x = made.make();
            int trays = x.count(8);
            x.blank();
            Check.write(x, Edges.TEXT);
            Check.due("tray() over " + made, x.tray(), 2);
            int[] due = {2, 4, 0, 0, 2, 3, 0, 0, trays + 1, cheaps[made.ordinal()]};
            Check.isTrue("counts over " + made, Arrays.equals(counts(x), due));
            for (int tile = 0; tile < 5; tile++) {
                Check.due("kind of " + tile + " over " + made, x.tile(tile, 0), tile);
                Check.due("sorts of " + tile + " over " + made, x.tile(tile, 4), 31);
            }
            Check.liesAs("tray() over " + made, x, 0, "01.234");
            Check.liesAs("tray() over " + made, x, 1, "0123.4");
            Check.due("restore() over " + made, x.restore(), PushTray.STATE);
        }
    }

    /** 25 times 19 letters and tray(), and count(): 501 of the 512 calls. */
    private static void asManyTraysAsCallsAllow() {
        PushTray x = new PushTray();
        for (int trays = 1; trays <= 25; trays++) {
            Check.write(x, Edges.TEXT);
            Check.due("tray() " + trays, x.tray(), 2);
        }
        Check.due("trays read", x.count(8), 25);
    }
}
