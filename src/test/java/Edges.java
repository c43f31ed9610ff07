import java.util.ArrayList;
import java.util.EnumMap;
import java.util.List;
import java.util.Map;
import java.util.function.ToIntFunction;

/** The objects on which the tests of boundaries stand, and all that a refused call has to leave alone in them. */
final class Edges {
    /** Tile 4, a stone, lies below tile 2's column beside the free cell; the goal is free in cell 4. */
    static final String TEXT = "01.234;thnso;0123.4";

    static final Made[] ALL = Made.values();
    static final Made[] WITHOUT_TRAY = {Made.NEW, Made.LETTERS, Made.FULL_PAGE};
    static final Made[] WITH_TRAY = {Made.READ, Made.USED, Made.FULL};

    private static final Map<Made, List<Long>> LOOKS = new EnumMap<>(Made.class);

    private Edges() {
    }

    /** What was done to an object before the call that is looked at. */
    enum Made {
        /** Nothing. */
        NEW,
        /** No tray, and three letters of one. */
        LETTERS,
        /** No tray, and as many letters as the page takes; the first of them are a tray's. */
        FULL_PAGE,
        /** A tray, and nothing else. */
        READ,
        /** A tray, and something of all that can be; the image is another than what lies now. */
        USED,
        /** A tray, and as much as goes of all that is bounded. */
        FULL;

        PushTray make() {
            PushTray x = new PushTray();
            switch (this) {
                case NEW: break;
                case LETTERS: Check.write(x, "01."); break;
                case FULL_PAGE: Check.write(x, TEXT + ";;;"); break;
                case READ: read(x); break;
                case USED: use(x); break;
                default: fill(x); break;
            }
            return x;
        }
    }

    private static void read(PushTray x) {
        Check.write(x, TEXT);
        x.tray();
    }

    private static void use(PushTray x) {
        read(x);
        x.push(4);
        x.see(0, 0, 1);
        x.image();
        x.push(3);
        x.exchange(0, 5);
        x.aim(1, 4);
        x.recast(2, 1);
        x.see(1, 1, 2);
        x.cheap(0);
        Check.write(x, "ab");
    }

    /** On top of what a used one has: one call of cheap() and two of see(). */
    private static void fill(PushTray x) {
        use(x);
        for (int done = 1; done < 20; done++) {
            x.cheap(0);
        }
        for (int seen = 2; seen < 6; seen++) {
            x.see(3, 0, 1);
        }
        x.blank();
        Check.write(x, TEXT + "...");
    }

    /** A call that has to be refused, on each of these objects, and to leave all as it was in a like one without it. */
    static void refused(String call, ToIntFunction<PushTray> asked, int want, Made... objects) {
        for (Made made : objects) {
            PushTray x = made.make();
            Check.due(call + " of " + made, asked.applyAsInt(x), want);
            isLeft(call + " of " + made, x, made);
        }
    }

    /** A call that leaves all as it was, whatever it answers. */
    static void leavesAll(String call, ToIntFunction<PushTray> asked) {
        for (Made made : ALL) {
            PushTray x = made.make();
            asked.applyAsInt(x);
            isLeft(call + " of " + made, x, made);
        }
    }

    private static void isLeft(String call, PushTray x, Made made) {
        Check.isTrue(call + " changes nothing", look(x).equals(LOOKS.computeIfAbsent(made, m -> look(m.make()))));
    }

    /** All that can be asked; then all behind the image, and whether what is on the page is read. */
    private static List<Long> look(PushTray x) {
        List<Long> all = new ArrayList<>();
        ask(x, all);
        all.add((long) x.restore());
        ask(x, all);
        all.add((long) x.tray());
        all.add((long) x.image());
        all.add(x.digest());
        return all;
    }

    private static void ask(PushTray x, List<Long> all) {
        all.add(x.digest());
        all.add((long) x.fault());
        for (int tile = 0; tile < 5; tile++) {
            for (int cell = 0; cell < 6; cell++) {
                all.add((long) x.home(tile, cell));
                all.add((long) x.odds(tile, cell, 6, 0));
            }
            for (int kind = 0; kind < 5; kind++) {
                all.add((long) x.as(tile, kind));
            }
        }
        for (int what = 0; what <= 2; what++) {
            all.add((long) x.runs(60, 7, what));
        }
    }

    /** Just below and just above, and what lies farther: some near to a wrap-around, some by which bits a table would miss. */
    static int[] beyond(int least, int most) {
        return new int[] {least - 1, most + 1, least - 2, most + 2, Integer.MIN_VALUE, Integer.MAX_VALUE, least + 256,
            least - 256, least + 65536, least | 1 << 31};
    }

    static String swapped(String text, int a, int b) {
        char[] signs = text.toCharArray();
        signs[a] = text.charAt(b);
        signs[b] = text.charAt(a);
        return new String(signs);
    }
}
