/** Promises 6 to 8: tile, as, cell. */
final class TilesTest {
    private TilesTest() {
    }

    public static void main(String[] args) {
        tile();
        tileCosts();
        as();
        cell();
        Check.end();
    }

    private static void answers(String call, int[] got, int[] want) {
        for (int i = 0; i < want.length; i++) {
            Check.due(call + " of " + i, got[i], want[i]);
        }
    }

    private static int[] tiles(PushTray x, int what) {
        int[] got = new int[5];
        for (int tile = 0; tile < got.length; tile++) {
            got[tile] = x.tile(tile, what);
        }
        return got;
    }

    private static int[] cells(PushTray x, int what) {
        int[] got = new int[6];
        for (int cell = 0; cell < got.length; cell++) {
            got[cell] = x.cell(cell, what);
        }
        return got;
    }

    private static void tile() {
        PushTray x = Check.tray("40.132;nhtos;042.13");
        answers("kind", tiles(x, 0), new int[] {2, 1, 0, 4, 3});
        answers("cell", tiles(x, 1), new int[] {1, 3, 5, 4, 0});
        answers("cell in the goal", tiles(x, 2), new int[] {0, 4, 2, 5, 1});
        answers("sorts", tiles(x, 4), new int[] {31, 31, 31, 31, 31});
        answers("way", tiles(x, 5), new int[] {0, 0, 0, 0, 0});
        // Tile 0 is nailed in cell 1 and 4 is shy in cell 0: tiles 2, 3 and 1 follow one another, and no more goes.
        answers("home in the goal", tiles(x, 6), new int[] {-1, 1 + 3 + 2, 1, 1 + 3, -1});
        x.see(1, 0, 2);
        x.see(2, 0, 3);
        x.see(2, 0, 1);
        answers("sorts then", tiles(x, 4), new int[] {31, 2, 0, 31, 31});
        answers("way then", tiles(x, 5), new int[] {0, 0, -1, 0, 0});
    }

    /** Each kind beside the free cell, within its row and from row to row. */
    private static void tileCosts() {
        String letters = "thnso";
        int[] within = {1, 2, -1, 1, 3};
        int[] between = {1, 2, -1, -1, 3};
        for (int kind = 0; kind < 5; kind++) {
            char letter = letters.charAt(kind);
            PushTray x = Check.tray("01.234;" + "nnnnn".replace('n', letter) + ";01.234");
            answers("price of " + letter, tiles(x, 3), new int[] {-1, within[kind], -1, -1, between[kind]});
        }
        PushTray middle = Check.tray("2.1304;hosnt;2.1304");
        answers("price round the middle", tiles(middle, 3), new int[] {2, 3, 1, -1, -1});
        PushTray lower = Check.tray("210.34;ttttt;2.1304");
        answers("price round cell 3, to which cell 2 is not next", tiles(lower, 3), new int[] {-1, -1, 1, 1, -1});
    }

    private static void as() {
        PushTray x = Check.tray("01.234;thnso;01.234");
        int[][] is = {
            {1, 0, 0, 0, 0},
            {1, 1, 0, 0, 0},
            {1, 0, 1, 0, 0},
            {1, 0, 0, 1, 0},
            {1, 1, 0, 0, 1},
        };
        for (int tile = 0; tile < 5; tile++) {
            for (int kind = 0; kind < 5; kind++) {
                Check.due("as(" + tile + ", " + kind + ")", x.as(tile, kind), is[tile][kind] == 1 ? tile : PushTray.NONE);
            }
        }
        x.recast(0, 4);
        Check.due("as(0, 1) of a stone", x.as(0, 1), 0);
    }

    private static void cell() {
        String[] lies = {".01234", "0.1234", "01.234", "012.34", "0123.4", "01234."};
        int[][] next = {
            {0, 1, 0, 1, 0, 0},
            {1, 0, 1, 0, 1, 0},
            {0, 1, 0, 0, 0, 1},
            {1, 0, 0, 0, 1, 0},
            {0, 1, 0, 1, 0, 1},
            {0, 0, 1, 0, 1, 0},
        };
        for (int free = 0; free < 6; free++) {
            PushTray x = Check.tray(lies[free] + ";nnnnn;4.3210");
            answers("next to the free one", cells(x, 2), next[free]);
            Check.liesAs("cell", x, 0, lies[free]);
            answers("in the goal", cells(x, 1), new int[] {4, -1, 3, 2, 1, 0});
        }
    }
}
