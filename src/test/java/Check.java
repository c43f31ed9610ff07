/** What every test here uses: an answer against the one that is due, and trays written letter by letter. */
final class Check {
    private static final int SHOWN = 40;
    private static final long MOST_MILLISECONDS = 600_000;
    private static int wrong = 0;

    static {
        watch();
    }

    private Check() {
    }

    /** A call that never ends is a fault, too, and no test may wait for it for ever. */
    private static void watch() {
        Thread watcher = new Thread(() -> {
            try {
                Thread.sleep(MOST_MILLISECONDS);
            } catch (InterruptedException e) {
                return;
            }
            System.out.println("a call does not end");
            Runtime.getRuntime().halt(1);
        });
        watcher.setDaemon(true);
        watcher.start();
    }

    static void due(String call, long got, long want) {
        if (got == want) {
            return;
        }
        wrong++;
        if (wrong <= SHOWN) {
            System.out.println(call + " answered " + got + ", due is " + want);
        }
    }

    static void isTrue(String what, boolean holds) {
        due(what, holds ? 1 : 0, 1);
    }

    static void write(PushTray x, String text) {
        for (int i = 0; i < text.length(); i++) {
            x.letter(text.charAt(i));
        }
    }

    static PushTray tray(String text) {
        PushTray x = new PushTray();
        write(x, text);
        Check.due("tray() of " + text, x.tray(), text.indexOf('.'));
        return x;
    }

    /** How all lies, as the first six signs of a tray's text: 'what' of cell() is 0 for now, 1 for the goal. */
    static String lies(PushTray x, int what) {
        StringBuilder text = new StringBuilder();
        for (int cell = 0; cell < 6; cell++) {
            int tile = x.cell(cell, what);
            text.append(tile < 0 ? "." : Integer.toString(tile));
        }
        return text.toString();
    }

    static void liesAs(String call, PushTray x, int what, String want) {
        String got = lies(x, what);
        isTrue(call + ": lies " + got + ", due is " + want, got.equals(want));
    }

    static void end() {
        System.out.println(wrong == 0 ? "all as due" : wrong + " not as due");
        if (wrong != 0) {
            System.exit(1);
        }
    }
}
