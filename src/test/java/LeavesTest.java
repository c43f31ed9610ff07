import java.util.Map;
import java.util.Set;
import java.util.TreeMap;
import java.util.function.ToIntFunction;

/**
 * What each call leaves as it was: "nothing is promised beyond the answers and state changes described". A call that
 * only asks changes nothing; one that does something changes but what its promise tells.
 */
final class LeavesTest {
    private LeavesTest() {
    }

    public static void main(String[] args) {
        askOfTheTray();
        askWhatWouldBe();
        askOfAll();
        doOnThePage();
        doOnTheTray();
        doOnWhatIsSeen();
        doOnTheImage();
        doOfAnotherTray();
        Check.end();
    }

    // ---- calls that only ask

    private static void askOfTheTray() {
        Edges.leavesAll("fault()", x -> x.fault());
        for (int what = 0; what <= 6; what++) {
            int asked = what;
            Edges.leavesAll("tile(1, " + what + ")", x -> x.tile(1, asked));
        }
        Edges.leavesAll("as(4, 1)", x -> x.as(4, 1));
        Edges.leavesAll("as(1, 4)", x -> x.as(1, 4));
        for (int what = 0; what <= 2; what++) {
            int asked = what;
            Edges.leavesAll("cell(4, " + what + ")", x -> x.cell(4, asked));
        }
    }

    private static void askWhatWouldBe() {
        for (int what = 0; what <= 2; what++) {
            int asked = what;
            Edges.leavesAll("least(" + what + ")", x -> x.least(asked));
            Edges.leavesAll("reach(" + what + ")", x -> x.reach(asked));
            Edges.leavesAll("runs(60, 3, " + what + ")", x -> x.runs(60, 3, asked));
        }
        Edges.leavesAll("home(1, 4)", x -> x.home(1, 4));
        Edges.leavesAll("swaps()", x -> x.swaps());
        Edges.leavesAll("odds(1, 4, 6, 0)", x -> x.odds(1, 4, 6, 0));
        Edges.leavesAll("odds(1, 4, 2, 1)", x -> x.odds(1, 4, 2, 1));
    }

    private static void askOfAll() {
        for (int what = 0; what <= 9; what++) {
            int asked = what;
            Edges.leavesAll("count(" + what + ")", x -> x.count(asked));
        }
        Edges.leavesAll("digest()", x -> (int) x.digest());
    }

    // ---- calls that do something

    /** All that can be told of an object but its image; for each part its name and how it stands. */
    private static Map<String, String> parts(PushTray x) {
        Map<String, String> parts = new TreeMap<>();
        StringBuilder kinds = new StringBuilder();
        StringBuilder sorts = new StringBuilder();
        for (int tile = 0; tile < 5; tile++) {
            kinds.append(x.tile(tile, 0)).append(' ');
            sorts.append(x.tile(tile, 4)).append(' ');
        }
        parts.put("lies", Check.lies(x, 0));
        parts.put("goal", Check.lies(x, 1));
        parts.put("kinds", kinds.toString());
        parts.put("sorts", sorts.toString());
        String[] counted = {"pushes", "costs", "seen", "letters", "trays", "cheaps"};
        int[] what = {2, 3, 6, 7, 8, 9};
        for (int i = 0; i < what.length; i++) {
            parts.put(counted[i], Integer.toString(x.count(what[i])));
        }
        return parts;
    }

    /** On a used object: each of the parts that are named is changed, and no other. */
    private static void changes(String call, ToIntFunction<PushTray> done, String... named) {
        PushTray x = Edges.Made.USED.make();
        Map<String, String> before = parts(x);
        done.applyAsInt(x);
        Map<String, String> then = parts(x);
        Set<String> due = Set.of(named);
        for (String part : before.keySet()) {
            boolean changed = !before.get(part).equals(then.get(part));
            Check.isTrue(call + (due.contains(part) ? " changes " : " leaves ") + part, changed == due.contains(part));
        }
    }

    /** And the image and the page are as they were: behind restore() all is as in a like object without the call. */
    private static void leavesTheImage(String call, ToIntFunction<PushTray> done) {
        PushTray x = Edges.Made.USED.make();
        PushTray like = Edges.Made.USED.make();
        done.applyAsInt(x);
        Check.due("restore() behind " + call, x.restore(), like.restore());
        Check.due("digest() behind " + call + " and restore()", x.digest(), like.digest());
    }

    private static void changesAndLeavesTheImage(String call, ToIntFunction<PushTray> done, String... named) {
        changes(call, done, named);
        leavesTheImage(call, done);
    }

    private static void doOnThePage() {
        changes("letter('c')", x -> x.letter('c'), "letters");
        changes("blank()", x -> x.blank(), "letters");
        leavesTheImage("letter('b') again, once the page is blank", x -> {
            x.blank();
            x.letter('a');
            return x.letter('b');
        });
    }

    private static void doOnTheTray() {
        changesAndLeavesTheImage("push()", LeavesTest::pushWhatGoes, "lies", "pushes", "costs");
        changesAndLeavesTheImage("exchange(0, 1)", x -> x.exchange(0, 1), "lies");
        changesAndLeavesTheImage("exchange(4, 0)", x -> x.exchange(4, 0), "lies");
        changesAndLeavesTheImage("aim(0, 1)", x -> x.aim(0, 1), "goal");
        changesAndLeavesTheImage("aim(5, 4)", x -> x.aim(5, 4), "goal");
        for (int tile = 0; tile < 5; tile++) {
            int each = tile;
            changesAndLeavesTheImage("recast() of " + tile, x -> x.recast(each, (x.tile(each, 0) + 1) % 5), "kinds");
        }
        changes("cheap(0)", x -> x.cheap(0), "cheaps");
        changes("cheap(1)", x -> x.cheap(1), "cheaps");
    }

    private static int pushWhatGoes(PushTray x) {
        for (int tile = 0; tile < 5; tile++) {
            if (x.tile(tile, 3) > 0) {
                return x.push(tile);
            }
        }
        return PushTray.NONE;
    }

    private static void doOnWhatIsSeen() {
        changesAndLeavesTheImage("see(4, 0, 3)", x -> x.see(4, 0, 3), "seen", "sorts");
        changesAndLeavesTheImage("see(0, 0, 1), as was seen before", x -> x.see(0, 0, 1), "seen");
        changesAndLeavesTheImage("forget()", x -> x.forget(), "seen", "sorts");
    }

    private static void doOnTheImage() {
        changes("image()", x -> x.image());
        changes("restore()", x -> x.restore(), "lies", "goal", "kinds", "pushes", "costs", "seen", "sorts");
        changes("image() and restore()", x -> x.image() + x.restore());
        leavesTheImage("restore()", x -> x.restore());
    }

    private static void doOfAnotherTray() {
        changes("tray()", x -> {
            x.blank();
            Check.write(x, "43210.;ooooo;43201.");
            return x.tray();
        }, "lies", "goal", "kinds", "pushes", "costs", "seen", "sorts", "letters", "trays");
    }
}
