/** Promises 22 to 25: image, restore, count, digest. */
final class WholeTest {
    private WholeTest() {
    }

    public static void main(String[] args) {
        imageAndRestore();
        restoreOftener();
        count();
        digestOfNone();
        digestOfTray();
        digestOfPushes();
        Check.end();
    }

    private static void imageAndRestore() {
        PushTray x = Check.tray("01.234;thnso;01.234");
        x.push(4);
        x.see(0, 0, 1);
        Check.due("image()", x.image(), 1);
        long before = x.digest();
        x.push(3);
        x.exchange(0, 1);
        x.aim(0, 5);
        x.recast(2, 0);
        x.see(0, 1, 0);
        x.see(1, 1, 0);
        Check.due("restore()", x.restore(), 1);
        Check.due("digest behind restore()", x.digest(), before);
        Check.liesAs("restore()", x, 0, "01423.");
        Check.liesAs("restore()", x, 1, "01.234");
        Check.due("kind", x.tile(2, 0), 2);
        Check.due("sorts", x.tile(0, 4), 9);
        Check.due("seen", x.count(6), 1);
        Check.due("costs", x.count(3), 3);
    }

    /** The image stays as it was kept, and what is not in it stays as it is. */
    private static void restoreOftener() {
        PushTray x = Check.tray("01.234;thnso;01.234");
        Check.due("image()", x.image(), 0);
        for (int time = 0; time < 3; time++) {
            x.push(4);
            x.see(1, 0, 2);
            x.recast(1, 3);
            x.letter('x');
            x.cheap(0);
            Check.due("restore()", x.restore(), 0);
            Check.due("seen", x.count(6), 0);
            Check.due("sorts", x.tile(1, 4), 31);
            Check.due("kind", x.tile(1, 0), 1);
            Check.due("letters", x.count(7), time + 1);
            Check.due("cheaps", x.count(9), time + 1);
            Check.liesAs("restore()", x, 0, "01.234");
        }
    }

    private static void counts(String call, PushTray x, int... want) {
        for (int what = 0; what < want.length; what++) {
            Check.due(call + ": count(" + what + ")", x.count(what), want[what]);
        }
    }

    private static void count() {
        PushTray x = Check.tray("01.234;thnso;01423.");
        counts("a tray", x, 2, 5, 0, 0, 2, 4, 0, 0, 1, 0);
        x.push(4);
        x.push(3);
        x.see(0, 0, 0);
        x.letter('a');
        x.letter('b');
        x.cheap(1);
        counts("then", x, 4, 5, 2, 4, 2, 4, 1, 2, 1, 1);
        x.push(3);
        counts("in the goal", x, 5, 5, 3, 5, 2, 6, 1, 2, 1, 1);
        Check.due("middle, all round it", Check.tray("0.1234;ttttt;0.1234").count(4), 3);
        Check.due("middle, shy ones", Check.tray("0.1234;sssss;0.1234").count(4), 2);
        Check.due("middle, nailed ones", Check.tray("0.1234;nnnnn;0.1234").count(4), 0);
        Check.due("no cell alike", Check.tray("0.1234;nnnnn;.14320").count(5), 0);
    }

    private static long mixed(long... numbers) {
        long h = 1291;
        for (long number : numbers) {
            h = h * 31 + number;
        }
        return h;
    }

    private static void digestOfNone() {
        PushTray x = new PushTray();
        Check.due("digest() of a new object", x.digest(), mixed(-1, -1, 0, 0, 0, 0, 0, 0, 0, 0));
        x.letter('a');
        x.letter('~');
        Check.due("digest() with letters", x.digest(), mixed('a', '~', -1, -1, 0, 0, 0, 0, 0, 2, 0, 0));
    }

    /** Tile 4 goes to and fro between cells 4 and 5: behind three pushes it is back in cell 4. */
    private static void digestOfPushes() {
        PushTray x = Check.tray("0123.4;nnnno;01234.");
        Check.due("digest() with pushes", x.digest(), mixed(
            2, 0, 0, -1, 31, 0, 0, 0, 0, 1,
            2, 1, 1, -1, 31, 0, 0, -1, 0, 1,
            2, 2, 2, -1, 31, 0, 0, -1, 0, 1,
            2, 3, 3, -1, 31, 0, 0, -1, 0, 1,
            4, 5, 4, 3, 31, 0, 3, -1, 1, 1,
            0, 0, 0, 1, 1, 1, 2, 2, 0, 3, 3, 1, -1, 4, 0, 4, -1, 1,
            3, 4, 1, 2, 3, 1,
            4, 5, 0, 0, 1, 4, 0, 0, 1, 0));
    }

    private static void digestOfTray() {
        PushTray x = Check.tray("01234.;nnnnn;0123.4");
        x.letter('z');
        Check.due("digest() with a tray", x.digest(), mixed(
            2, 0, 0, -1, 31, 0, 0, 0, 0, 1,
            2, 1, 1, -1, 31, 0, 0, -1, 0, 1,
            2, 2, 2, -1, 31, 0, 0, -1, 0, 1,
            2, 3, 3, -1, 31, 0, 0, -1, 0, 1,
            2, 4, 5, -1, 31, 0, -1, -1, 1, 1,
            0, 0, 0, 1, 1, 0, 2, 2, 1, 3, 3, 0, 4, -1, 1, -1, 4, 0,
            -1, -1, -1, 1, 0, 1,
            'z',
            5, 4, 0, 0, 0, 4, 0, 1, 1, 0));
    }
}
