import java.math.BigInteger;
import java.util.ArrayList;
import java.util.HashMap;
import java.util.List;
import java.util.Map;
import java.util.PriorityQueue;
import java.util.TreeSet;

/**
 * The document told a second time, over texts and by the plainest search, to be held against the program:
 * it shares no code with it, and no thought but the document's own.
 */
final class Model {
    static final int NONE = -1, UNKNOWN = -101, OUTSIDE = -102, STATE = -103, FULL = -104;

    private String page = "";
    private String lies;
    private String goal;
    private String kinds;
    private int pushes;
    private int costs;
    private List<int[]> seen = new ArrayList<>();
    private Model image;
    private int trays;
    private int cheaps;
    private final Map<String, Map<String, Integer>> searched;

    Model() {
        this(new HashMap<>());
    }

    private Model(Map<String, Map<String, Integer>> searched) {
        this.searched = searched;
    }

    // ---- the tray

    int letter(int code) {
        if (code < 32 || code > 126) {
            return OUTSIDE;
        }
        if (page.length() == 22) {
            return FULL;
        }
        page += (char) code;
        return page.length();
    }

    int blank() {
        int had = page.length();
        page = "";
        return had;
    }

    /** A text can go on to a tray's if it matches as far as it is long: what is open is filled up here. */
    private static boolean canBegin(String text) {
        String[] parts = (text + " ").split(";", -1);
        parts[parts.length - 1] = parts[parts.length - 1].substring(0, parts[parts.length - 1].length() - 1);
        if (parts.length > 3) {
            return false;
        }
        int[] sizes = {6, 5, 6};
        for (int i = 0; i < parts.length; i++) {
            String allowed = i == 1 ? "[thnso]*" : "[0-4.]*";
            boolean once = i == 1 || parts[i].chars().distinct().count() == parts[i].length();
            boolean last = i == parts.length - 1;
            boolean fits = last ? parts[i].length() <= sizes[i] : parts[i].length() == sizes[i];
            if (!parts[i].matches(allowed) || !once || !fits) {
                return false;
            }
        }
        return true;
    }

    int fault() {
        int place = 0;
        while (place < page.length() && canBegin(page.substring(0, place + 1))) {
            place++;
        }
        return place;
    }

    int tray() {
        if (page.length() != 19 || !canBegin(page)) {
            return STATE;
        }
        String[] parts = page.split(";");
        lies = parts[0];
        kinds = parts[1];
        goal = parts[2];
        page = "";
        pushes = 0;
        costs = 0;
        seen = new ArrayList<>();
        image = null;
        trays++;
        return lies.indexOf('.');
    }

    // ---- tiles, cells

    private boolean noTile(int tile) {
        return lies == null || tile < 0 || tile > 4;
    }

    private boolean noCell(int cell) {
        return lies == null || cell < 0 || cell > 5;
    }

    private static char sign(int tile) {
        return (char) ('0' + tile);
    }

    private static int numberOf(char sign) {
        return sign == '.' ? NONE : sign - '0';
    }

    private int kind(int tile) {
        return "thnso".indexOf(kinds.charAt(tile));
    }

    int tile(int tile, int what) {
        if (noTile(tile)) {
            return UNKNOWN;
        }
        int goalCell = goal.indexOf(sign(tile));
        switch (what) {
            case 0: return kind(tile);
            case 1: return lies.indexOf(sign(tile));
            case 2: return goalCell;
            case 3: return price(lies, tile);
            case 4: return sorts(tile);
            case 5: return way(sorts(tile));
            case 6: return home(tile, goalCell);
            default: return OUTSIDE;
        }
    }

    int as(int tile, int kind) {
        if (noTile(tile)) {
            return UNKNOWN;
        }
        if (kind < 0 || kind > 4) {
            return OUTSIDE;
        }
        return kind == 0 || kind(tile) == kind || kind(tile) == 4 && kind == 1 ? tile : NONE;
    }

    private static boolean next(int a, int b) {
        String pairs = "01 12 34 45 03 14 25";
        return pairs.contains(a + "" + b) || pairs.contains(b + "" + a);
    }

    int cell(int cell, int what) {
        if (noCell(cell)) {
            return UNKNOWN;
        }
        switch (what) {
            case 0: return numberOf(lies.charAt(cell));
            case 1: return numberOf(goal.charAt(cell));
            case 2: return next(cell, lies.indexOf('.')) ? 1 : 0;
            default: return OUTSIDE;
        }
    }

    /** What a push of a kind costs from row to row, or within one; 0: it does not go. */
    private static int costOf(int kind, boolean acrossRows) {
        switch ("thnso".charAt(kind)) {
            case 'h': return 2;
            case 'o': return 3;
            case 'n': return 0;
            case 's': return acrossRows ? 0 : 1;
            default: return 1;
        }
    }

    private int price(String from, int tile) {
        int cell = from.indexOf(sign(tile));
        int free = from.indexOf('.');
        if (!next(cell, free)) {
            return NONE;
        }
        int cost = costOf(kind(tile), cell < 3 != free < 3);
        return cost == 0 ? NONE : cost;
    }

    private static String swapped(String from, int a, int b) {
        StringBuilder text = new StringBuilder(from);
        text.setCharAt(a, from.charAt(b));
        text.setCharAt(b, from.charAt(a));
        return text.toString();
    }

    private static String pushed(String from, int tile) {
        return swapped(from, from.indexOf(sign(tile)), from.indexOf('.'));
    }

    private List<Integer> choices(String from) {
        List<Integer> tiles = new ArrayList<>();
        for (int tile = 0; tile < 5; tile++) {
            if (price(from, tile) != NONE) {
                tiles.add(tile);
            }
        }
        return tiles;
    }

    // ---- what is done

    int push(int tile) {
        if (noTile(tile)) {
            return UNKNOWN;
        }
        int price = price(lies, tile);
        if (price == NONE) {
            return STATE;
        }
        if (pushes == 999) {
            return FULL;
        }
        lies = pushed(lies, tile);
        pushes++;
        costs += price;
        return price;
    }

    int exchange(int a, int b) {
        if (noCell(a) || noCell(b) || a == b) {
            return UNKNOWN;
        }
        lies = swapped(lies, a, b);
        return lies.indexOf('.');
    }

    int aim(int a, int b) {
        if (noCell(a) || noCell(b) || a == b) {
            return UNKNOWN;
        }
        goal = swapped(goal, a, b);
        return goal.indexOf('.');
    }

    int recast(int tile, int kind) {
        if (noTile(tile)) {
            return UNKNOWN;
        }
        if (kind < 0 || kind > 4) {
            return OUTSIDE;
        }
        int was = kind(tile);
        kinds = kinds.substring(0, tile) + "thnso".charAt(kind) + kinds.substring(tile + 1);
        return was;
    }

    // ---- what would be

    private Map<String, Integer> costsFrom(String start) {
        String key = start + kinds;
        Map<String, Integer> known = searched.get(key);
        if (known != null) {
            return known;
        }
        Map<String, Integer> settled = new HashMap<>();
        PriorityQueue<Object[]> open = new PriorityQueue<>((a, b) -> (Integer) a[0] - (Integer) b[0]);
        open.add(new Object[] {0, start});
        while (!open.isEmpty()) {
            Object[] least = open.remove();
            String at = (String) least[1];
            int cost = (Integer) least[0];
            if (settled.putIfAbsent(at, cost) == null) {
                for (int tile : choices(at)) {
                    open.add(new Object[] {cost + price(at, tile), pushed(at, tile)});
                }
            }
        }
        if (searched.size() > 2000) {
            searched.clear();
        }
        searched.put(key, settled);
        return settled;
    }

    private int costBetween(String from, String to) {
        return costsFrom(from).getOrDefault(to, NONE);
    }

    private int firstTile(String from) {
        int cost = costBetween(from, goal);
        for (int tile : choices(from)) {
            int rest = costBetween(pushed(from, tile), goal);
            if (rest != NONE && rest + price(from, tile) == cost) {
                return tile;
            }
        }
        return NONE;
    }

    int least(int what) {
        if (what < 0 || what > 2) {
            return OUTSIDE;
        }
        if (lies == null) {
            return STATE;
        }
        int cost = costBetween(lies, goal);
        if (what == 0 || cost == NONE) {
            return cost;
        }
        if (what == 1) {
            return firstTile(lies);
        }
        int many = 0;
        for (String at = lies; !at.equals(goal); at = pushed(at, firstTile(at))) {
            many++;
        }
        return many;
    }

    int reach(int what) {
        if (what < 0 || what > 1) {
            return OUTSIDE;
        }
        if (lies == null) {
            return STATE;
        }
        Map<String, Integer> all = costsFrom(lies);
        return what == 0 ? all.size() : new TreeSet<>(all.values()).last();
    }

    int home(int tile, int cell) {
        if (noTile(tile) || noCell(cell)) {
            return UNKNOWN;
        }
        return costsFrom(lies).entrySet().stream()
            .filter(e -> e.getKey().charAt(cell) == sign(tile))
            .mapToInt(Map.Entry::getValue).min().orElse(NONE);
    }

    /** Row by row of exchanges: in one exchange, in two .., until the goal is among what lies then. */
    int swaps() {
        if (lies == null) {
            return STATE;
        }
        TreeSet<String> now = new TreeSet<>(List.of(lies));
        int many = 0;
        while (!now.contains(goal)) {
            TreeSet<String> then = new TreeSet<>(now);
            for (String at : now) {
                for (int pair = 0; pair < 36; pair++) {
                    then.add(swapped(at, pair / 6, pair % 6));
                }
            }
            now = then;
            many++;
        }
        return many;
    }

    int cheap(int what) {
        if (what < 0 || what > 1) {
            return OUTSIDE;
        }
        if (lies == null || cheaps == 20) {
            return STATE;
        }
        cheaps++;
        int which = NONE;
        int least = NONE;
        for (int pair = 55; pair >= 0; pair--) {
            int a = pair / 10;
            int b = pair % 10;
            if (a < b && b < 6) {
                int cost = costBetween(swapped(lies, a, b), goal);
                if (cost != NONE && (least == NONE || cost <= least)) {
                    which = pair;
                    least = cost;
                }
            }
        }
        return what == 0 ? which : least;
    }

    /** Above and below, not in lowest terms. */
    private BigInteger[] likely(String from, int tile, int cell, int left) {
        if (left == 0) {
            return new BigInteger[] {from.charAt(cell) == sign(tile) ? BigInteger.ONE : BigInteger.ZERO, BigInteger.ONE};
        }
        List<Integer> tiles = choices(from);
        if (tiles.isEmpty()) {
            return likely(from, tile, cell, left - 1);
        }
        BigInteger above = BigInteger.ZERO;
        BigInteger below = BigInteger.ONE;
        for (int each : tiles) {
            BigInteger[] part = likely(pushed(from, each), tile, cell, left - 1);
            above = above.multiply(part[1]).add(part[0].multiply(below));
            below = below.multiply(part[1]);
            BigInteger common = above.gcd(below);
            above = above.divide(common);
            below = below.divide(common);
        }
        return new BigInteger[] {above, below.multiply(BigInteger.valueOf(tiles.size()))};
    }

    int odds(int tile, int cell, int times, int what) {
        if (noTile(tile) || noCell(cell)) {
            return UNKNOWN;
        }
        if (times < 1 || times > 6 || what < 0 || what > 1) {
            return OUTSIDE;
        }
        BigInteger[] odds = likely(lies, tile, cell, times);
        return odds[what].divide(odds[0].gcd(odds[1])).intValueExact();
    }

    // ---- what is seen

    int see(int tile, int way, int cost) {
        if (noTile(tile)) {
            return UNKNOWN;
        }
        if (way < 0 || way > 1 || cost < 0 || cost > 3) {
            return OUTSIDE;
        }
        if (seen.size() == 6) {
            return FULL;
        }
        seen.add(new int[] {tile, way, cost});
        return seen.size();
    }

    private int sorts(int tile) {
        int bits = 0;
        for (int kind = 0; kind < 5; kind++) {
            boolean all = true;
            for (int[] one : seen) {
                all &= one[0] != tile || costOf(kind, one[1] == 1) == one[2];
            }
            bits |= all ? 1 << kind : 0;
        }
        return bits;
    }

    private static int way(int sorts) {
        int[] worst = new int[2];
        for (int way = 0; way < 2; way++) {
            int[] left = new int[4];
            for (int kind = 0; kind < 5; kind++) {
                if ((sorts & 1 << kind) != 0) {
                    worst[way] = Math.max(worst[way], ++left[costOf(kind, way == 1)]);
                }
            }
        }
        return sorts == 0 ? NONE : worst[1] < worst[0] ? 1 : 0;
    }

    int forget() {
        int had = seen.size();
        seen = new ArrayList<>();
        return had;
    }

    private static int alike(String a, String b) {
        int many = 0;
        for (int cell = 0; cell < 6; cell++) {
            many += a.charAt(cell) == b.charAt(cell) ? 1 : 0;
        }
        return many;
    }

    int runs(int times, int seed, int what) {
        if (times < 1 || times > 60 || seed < 0 || what < 0 || what > 2) {
            return OUTSIDE;
        }
        if (lies == null) {
            return STATE;
        }
        BigInteger drawn = BigInteger.valueOf(seed);
        String at = lies;
        int sum = 0;
        for (int time = 0; time < times; time++) {
            List<Integer> tiles = choices(at);
            if (!tiles.isEmpty()) {
                drawn = drawn.multiply(BigInteger.valueOf(1103515245)).add(BigInteger.valueOf(12345))
                    .mod(BigInteger.TWO.pow(31));
                int tile = tiles.get(drawn.shiftRight(16).mod(BigInteger.valueOf(tiles.size())).intValue());
                sum += price(at, tile);
                at = pushed(at, tile);
            }
        }
        return what == 0 ? sum : what == 1 ? alike(at, goal) : drawn.intValueExact();
    }

    // ---- what is told of all

    private void take(Model other) {
        lies = other.lies;
        goal = other.goal;
        kinds = other.kinds;
        pushes = other.pushes;
        costs = other.costs;
        seen = new ArrayList<>(other.seen);
    }

    int image() {
        if (lies == null) {
            return STATE;
        }
        image = new Model(searched);
        image.take(this);
        return pushes;
    }

    int restore() {
        if (image == null) {
            return STATE;
        }
        take(image);
        return pushes;
    }

    int count(int what) {
        switch (what) {
            case 0: return lies == null ? NONE : lies.indexOf('.');
            case 1: return lies == null ? NONE : goal.indexOf('.');
            case 2: return pushes;
            case 3: return costs;
            case 4: return lies == null ? 0 : choices(lies).size();
            case 5: return lies == null ? 0 : alike(lies, goal);
            case 6: return seen.size();
            case 7: return page.length();
            case 8: return trays;
            case 9: return cheaps;
            default: return OUTSIDE;
        }
    }

    long digest() {
        List<Integer> all = new ArrayList<>();
        for (int tile = 0; tile < 5 && lies != null; tile++) {
            for (int what = 0; what <= 6; what++) {
                all.add(tile(tile, what));
            }
            all.addAll(List.of(home(tile, 0), odds(tile, 4, 3, 0), odds(tile, 4, 3, 1)));
        }
        for (int cell = 0; cell < 6 && lies != null; cell++) {
            all.addAll(List.of(cell(cell, 0), cell(cell, 1), cell(cell, 2)));
        }
        if (lies != null) {
            all.addAll(List.of(least(0), least(1), least(2), reach(0), reach(1), swaps()));
        }
        page.chars().forEach(all::add);
        for (int what = 0; what <= 9; what++) {
            all.add(count(what));
        }
        long h = 1291;
        for (int number : all) {
            h = 31 * h + number;
        }
        return h;
    }
}
