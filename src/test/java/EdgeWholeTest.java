import java.math.BigInteger;
import java.util.ArrayList;
import java.util.List;

/** The boundaries of promises 22 to 25: no image, one that is gone, each count at its least and its most, a digest that wraps. */
final class EdgeWholeTest {
    private EdgeWholeTest() {
    }

    public static void main(String[] args) {
        imageRefused();
        imageOfNothingAndOfMuch();
        restoreRefused();
        restoreBehindAnotherTray();
        restoreBehindNoTray();
        restoreTakesTheLatest();
        restoreLeavesWhatIsNoImage();
        countRefused();
        countsOfEach();
        countsAtTheEnds();
        countsOfMany();
        digestOfEach();
        Check.end();
    }

    // ---- 22: "STATE: no TRAY"

    private static void imageRefused() {
        Edges.refused("image()", x -> x.image(), PushTray.STATE, Edges.WITHOUT_TRAY);
    }

    private static void imageOfNothingAndOfMuch() {
        PushTray x = Check.tray("01.234;ooooo;01.234");
        Check.due("image() of no push", x.image(), 0);
        for (int pushes = 1; pushes <= 480; pushes++) {
            x.push(4);
        }
        Check.due("image() of 480 pushes", x.image(), 480);
        x.push(4);
        Check.due("restore() of 480 pushes", x.restore(), 480);
        Check.due("costs of 480 pushes", x.count(3), 1440);
    }

    // ---- 23: "STATE: none was kept, or a TRAY was read since (of the same text, too)"

    private static void restoreRefused() {
        Edges.refused("restore() of no image", x -> x.restore(), PushTray.STATE, Edges.Made.NEW, Edges.Made.LETTERS,
            Edges.Made.FULL_PAGE, Edges.Made.READ);
    }

    private static void restoreBehindAnotherTray() {
        String[] texts = {"01.234;thnso;0123.4", "43210.;ttttt;43210."};
        for (String text : texts) {
            PushTray x = Check.tray("01.234;thnso;0123.4");
            x.image();
            Check.write(x, text);
            x.tray();
            long before = x.digest();
            Check.due("restore() behind tray() of " + text, x.restore(), PushTray.STATE);
            Check.due("digest() behind restore() refused", x.digest(), before);
            Check.due("image() of " + text, x.image(), 0);
            Check.due("restore() of " + text, x.restore(), 0);
            Check.write(x, "01.234;thnso;0123.4");
            Check.due("tray() of the first", x.tray(), 2);
            Check.due("restore() behind it", x.restore(), PushTray.STATE);
        }
    }

    /** What is read as no tray takes no image away, nor do letters, nor all else that can be done. */
    private static void restoreBehindNoTray() {
        PushTray x = Check.tray(Edges.TEXT);
        x.push(4);
        x.see(0, 0, 1);
        x.see(4, 0, 3);
        x.image();
        long before = x.digest();
        Check.write(x, Edges.TEXT + ";");
        Check.due("tray() of twenty letters", x.tray(), PushTray.STATE);
        Check.due("blank()", x.blank(), 20);
        Check.due("tray() of none", x.tray(), PushTray.STATE);
        x.push(4);
        x.push(1);
        x.exchange(0, 5);
        x.aim(5, 0);
        for (int tile = 0; tile < 5; tile++) {
            x.recast(tile, 4 - tile);
        }
        for (int seen = 2; seen < 6; seen++) {
            x.see(0, 0, 0);
        }
        x.runs(60, 1, 0);
        Check.due("restore()", x.restore(), 1);
        Check.due("digest() behind restore()", x.digest(), before);
        Check.due("sorts of tile 0 in the image", x.tile(0, 4), 1 | 8);
        Check.due("sorts of tile 4 in the image", x.tile(4, 4), 16);
        x.see(1, 1, 1);
        x.forget();
        x.push(4);
        Check.due("restore() again", x.restore(), 1);
        Check.due("digest() behind restore() again", x.digest(), before);
    }

    private static void restoreTakesTheLatest() {
        PushTray x = Check.tray("01.234;ttttt;01.234");
        x.push(4);
        Check.due("image() of one push", x.image(), 1);
        x.push(3);
        Check.due("image() of two", x.image(), 2);
        x.push(3);
        Check.due("restore() of two", x.restore(), 2);
        Check.liesAs("restore() of two", x, 0, "0142.3");
    }

    private static void restoreLeavesWhatIsNoImage() {
        PushTray x = Edges.Made.FULL.make();
        Check.due("restore()", x.restore(), 1);
        int[] due = {5, 4, 1, 3, 2, 2, 1, 22, 1, 20};
        for (int what = 0; what <= 9; what++) {
            Check.due("count(" + what + ") behind restore()", x.count(what), due[what]);
        }
        Check.due("letter 23 behind restore()", x.letter('x'), PushTray.FULL);
        Check.due("cheap 21 behind restore()", x.cheap(0), PushTray.STATE);
    }

    // ---- 24: "OUTSIDE", and each count where it is least and where it is most

    private static void countRefused() {
        for (int what : Edges.beyond(0, 9)) {
            Edges.refused("count(" + what + ")", x -> x.count(what), PushTray.OUTSIDE, Edges.ALL);
        }
    }

    private static void countsOfEach() {
        int[][] due = {
            {-1, -1, 0, 0, 0, 0, 0, 0, 0, 0},
            {-1, -1, 0, 0, 0, 0, 0, 3, 0, 0},
            {-1, -1, 0, 0, 0, 0, 0, 22, 0, 0},
            {2, 4, 0, 0, 2, 3, 0, 0, 1, 0},
            {4, 1, 2, 4, 3, 0, 2, 2, 1, 1},
            {4, 1, 2, 4, 3, 0, 6, 22, 1, 20},
        };
        for (Edges.Made made : Edges.ALL) {
            PushTray x = made.make();
            for (int what = 0; what <= 9; what++) {
                Check.due("count(" + what + ") of " + made, x.count(what), due[made.ordinal()][what]);
            }
        }
    }

    private static void countsOf(String text, int free, int freeInGoal, int canGo, int alike) {
        PushTray x = Check.tray(text);
        Check.due("count(0) of " + text, x.count(0), free);
        Check.due("count(1) of " + text, x.count(1), freeInGoal);
        Check.due("count(4) of " + text, x.count(4), canGo);
        Check.due("count(5) of " + text, x.count(5), alike);
    }

    /** None to three can go, none to four cells are alike, or all six: five can't be. */
    private static void countsAtTheEnds() {
        countsOf(".01234;ttttt;43210.", 0, 5, 2, 0);
        countsOf("01234.;nnnnn;.43210", 5, 0, 0, 0);
        countsOf("0.1234;nnnnn;013.42", 1, 3, 0, 1);
        countsOf("0.1234;sssts;013.24", 1, 3, 3, 2);
        countsOf("0.1234;sssss;0.3124", 1, 1, 2, 3);
        countsOf("0.1234;ttttt;01.234", 1, 2, 3, 4);
        countsOf("0.1234;nnntn;0.1234", 1, 1, 1, 6);
    }

    /** Pushes, their costs and trays go as far as the calls do; the other counts stop where their calls are refused. */
    private static void countsOfMany() {
        PushTray x = Edges.Made.NEW.make();
        for (int many = 1; many <= 30; many++) {
            x.letter('x');
        }
        Check.due("count(7) behind 30 letters", x.count(7), 22);
        PushTray y = Check.tray("01.234;ttttt;01.234");
        for (int many = 1; many <= 30; many++) {
            y.see(0, 0, 1);
            y.cheap(0);
            y.push(4);
        }
        Check.due("count(6) behind 30 of see()", y.count(6), 6);
        Check.due("count(9) behind 30 of cheap()", y.count(9), 20);
        Check.due("count(2) behind 30 of push()", y.count(2), 30);
        Check.due("count(3) behind 30 of push()", y.count(3), 30);
        y.push(0);
        y.push(5);
        Check.due("count(2) behind a push refused", y.count(2), 30);
    }

    // ---- 25: "31 times h, and it (as longs, wrapping)"

    private static List<Integer> told(PushTray x) {
        List<Integer> all = new ArrayList<>();
        for (int tile = 0; tile < 5; tile++) {
            for (int what = 0; what <= 6; what++) {
                all.add(x.tile(tile, what));
            }
            all.add(x.home(tile, 0));
            all.add(x.odds(tile, 4, 3, 0));
            all.add(x.odds(tile, 4, 3, 1));
        }
        for (int cell = 0; cell < 6; cell++) {
            for (int what = 0; what <= 2; what++) {
                all.add(x.cell(cell, what));
            }
        }
        for (int what = 0; what <= 2; what++) {
            all.add(x.least(what));
        }
        all.add(x.reach(0));
        all.add(x.reach(1));
        all.add(x.swaps());
        return all;
    }

    /** In whole numbers, of which the last 64 bits are taken at the end alone. */
    private static long wrapped(List<Integer> all) {
        BigInteger h = BigInteger.valueOf(1291);
        for (int number : all) {
            h = h.multiply(BigInteger.valueOf(31)).add(BigInteger.valueOf(number));
        }
        return h.longValue();
    }

    private static void digestOf(String call, PushTray x, boolean hasTray, String page) {
        List<Integer> all = hasTray ? told(x) : new ArrayList<>();
        page.chars().forEach(all::add);
        for (int what = 0; what <= 9; what++) {
            all.add(x.count(what));
        }
        Check.due("digest() of " + call, x.digest(), wrapped(all));
        Check.due("digest() again of " + call, x.digest(), wrapped(all));
    }

    /** With no tray and with one, with an empty page and a full one; of letters the least code and the greatest. */
    private static void digestOfEach() {
        String[] pages = {"", "01.", Edges.TEXT + ";;;", "", "ab", Edges.TEXT + "..."};
        for (Edges.Made made : Edges.ALL) {
            digestOf(made.toString(), made.make(), made.ordinal() > 2, pages[made.ordinal()]);
        }
        for (String page : new String[] {" ", "~", "~~~~~~~~~~~~~~~~~~~~~~", "                      "}) {
            PushTray x = new PushTray();
            Check.write(x, page);
            digestOf("a page of " + page, x, false, page);
        }
    }
}
