import java.util.ArrayList;
import java.util.Collections;
import java.util.List;
import java.util.Random;

/** Long runs of calls, held against the model: each of 512 calls a run, drawn by the number of the run. */
final class ModelTest {
    private static final int RUNS = 120;
    private static final int CALLS = 512;

    private final Random random;
    private final int run;
    private final PushTray x = new PushTray();
    private final Model model = new Model();
    private final String letters;
    private int calls;

    private ModelTest(int run) {
        this.run = run;
        random = new Random(run);
        String[] mixes = {"t", "thnso", "tthhso", "ts", "hto", "ttttn", "sso", "tttsh"};
        letters = mixes[run % mixes.length];
    }

    public static void main(String[] args) {
        for (int run = 1; run <= RUNS; run++) {
            new ModelTest(run).calls();
        }
        Check.end();
    }

    private void calls() {
        while (calls < CALLS) {
            if (calls == 0 && run % 3 != 0 || random.nextInt(90) == 0) {
                write();
            } else {
                one(random.nextInt(24));
            }
        }
    }

    private void due(String call, long got, long want) {
        calls++;
        Check.due("run " + run + ", call " + calls + ": " + call, got, want);
    }

    private int upTo(int most) {
        return random.nextInt(most + 1);
    }

    /** Mostly a number that is told, now and then one just or far beyond. */
    private int near(int least, int most) {
        int draw = random.nextInt(40);
        if (draw > 1) {
            return least + random.nextInt(most - least + 1);
        }
        int[] beyond = {least - 1, most + 1, Integer.MIN_VALUE, Integer.MAX_VALUE, -1, 1 << random.nextInt(31)};
        return beyond[random.nextInt(beyond.length)];
    }

    private String shuffled() {
        List<String> signs = new ArrayList<>(List.of("0", "1", "2", "3", "4", "."));
        Collections.shuffle(signs, random);
        return String.join("", signs);
    }

    private String trayText() {
        StringBuilder text = new StringBuilder(shuffled()).append(';');
        for (int tile = 0; tile < 5; tile++) {
            text.append(letters.charAt(random.nextInt(letters.length())));
        }
        text.append(';').append(shuffled());
        String any = "01234.;thnsox5/:T ";
        if (random.nextInt(4) == 0) {
            text.setCharAt(random.nextInt(text.length()), any.charAt(random.nextInt(any.length())));
        }
        if (random.nextInt(6) == 0) {
            text.append(any.charAt(random.nextInt(any.length())));
        }
        return text.toString();
    }

    private void write() {
        due("blank()", x.blank(), model.blank());
        String text = trayText();
        for (int i = 0; i < text.length(); i++) {
            int code = text.charAt(i);
            due("letter(" + code + ")", x.letter(code), model.letter(code));
        }
        due("fault() of " + text, x.fault(), model.fault());
        due("tray() of " + text, x.tray(), model.tray());
    }

    private void one(int which) {
        if (which < 12) {
            act(which);
        } else {
            ask(which);
        }
    }

    private void act(int which) {
        int a = near(0, 4);
        int b = near(0, 5);
        int c = near(0, 5);
        switch (which) {
            case 0: case 1: case 2: case 3:
                due("push(" + a + ")", x.push(a), model.push(a));
                break;
            case 4: due("exchange(" + b + ", " + c + ")", x.exchange(b, c), model.exchange(b, c)); break;
            case 5: due("aim(" + b + ", " + c + ")", x.aim(b, c), model.aim(b, c)); break;
            case 6: recast(a); break;
            case 7: see(a); break;
            case 8: image(); break;
            case 9: due("restore()", x.restore(), model.restore()); break;
            case 10: letter(); break;
            default: due("digest()", x.digest(), model.digest()); break;
        }
    }

    private void recast(int tile) {
        int kind = random.nextInt(20) == 0 ? near(0, 4) : "thnso".indexOf(letters.charAt(random.nextInt(letters.length())));
        due("recast(" + tile + ", " + kind + ")", x.recast(tile, kind), model.recast(tile, kind));
    }

    private void see(int tile) {
        int way = near(0, 1);
        int cost = near(0, 3);
        due("see(" + tile + ", " + way + ", " + cost + ")", x.see(tile, way, cost), model.see(tile, way, cost));
        if (random.nextInt(8) == 0) {
            due("forget()", x.forget(), model.forget());
        }
    }

    private void image() {
        if (random.nextInt(3) == 0) {
            due("image()", x.image(), model.image());
        }
    }

    private void letter() {
        int code = near(32, 126);
        due("letter(" + code + ")", x.letter(code), model.letter(code));
        due("fault()", x.fault(), model.fault());
        due("tray()", x.tray(), model.tray());
    }

    private void ask(int which) {
        int a = near(0, 4);
        int b = near(0, 5);
        switch (which) {
            case 12: case 13: tile(a); break;
            case 14: cell(b); break;
            case 15: as(a); break;
            case 16: case 17: least(); break;
            case 18: reach(); break;
            case 19: due("home(" + a + ", " + b + ")", x.home(a, b), model.home(a, b)); break;
            case 20: cheap(); break;
            case 21: odds(a, b); break;
            case 22: runs(); break;
            default: counts(); break;
        }
    }

    private void tile(int tile) {
        int what = near(0, 6);
        due("tile(" + tile + ", " + what + ")", x.tile(tile, what), model.tile(tile, what));
    }

    private void cell(int cell) {
        int what = near(0, 2);
        due("cell(" + cell + ", " + what + ")", x.cell(cell, what), model.cell(cell, what));
    }

    private void as(int tile) {
        int kind = near(0, 4);
        due("as(" + tile + ", " + kind + ")", x.as(tile, kind), model.as(tile, kind));
    }

    private void least() {
        int what = near(0, 2);
        due("least(" + what + ")", x.least(what), model.least(what));
    }

    private void reach() {
        int what = near(0, 1);
        due("reach(" + what + ")", x.reach(what), model.reach(what));
        due("swaps()", x.swaps(), model.swaps());
    }

    private void cheap() {
        int what = near(0, 1);
        due("cheap(" + what + ")", x.cheap(what), model.cheap(what));
    }

    private void odds(int tile, int cell) {
        int pushes = near(1, 6);
        int what = near(0, 1);
        String call = "odds(" + tile + ", " + cell + ", " + pushes + ", " + what + ")";
        due(call, x.odds(tile, cell, pushes, what), model.odds(tile, cell, pushes, what));
    }

    private void runs() {
        int times = near(1, 60);
        int seed = random.nextBoolean() ? upTo(1000) : random.nextInt();
        int what = near(0, 2);
        String call = "runs(" + times + ", " + seed + ", " + what + ")";
        due(call, x.runs(times, seed, what), model.runs(times, seed, what));
    }

    private void counts() {
        int what = near(0, 9);
        due("count(" + what + ")", x.count(what), model.count(what));
    }
}
