/** Promises 28 to 32: sheet, cell, copy, rowers, taken. */
final class HostTest {
    private static final int FAR = Integer.MAX_VALUE, FAR_BELOW = Integer.MIN_VALUE;

    public static void main(String[] args) {
        sheet();
        cell();
        copy();
        copyRefusals();
        rowers();
        rowersPartly();
        rowersRefusals();
        rowersFull();
        taken();
        Check.end();
    }

    /** An item of a sheet, as judge tells -1 (the TURN of a crossing that nobody rows at) and waits 0 .. 20. */
    private static void item(StandingUp x, int sheet, int i, int want) {
        for (int sort = 0; sort < 3; sort++) {
            x.sheet(3, sort, 1);
            if (x.copy(sheet, i, 3, 0, 1) == 1) {
                break;
            }
        }
        Check.due("item " + i, want == -1 ? -1 : 6, x.judge(0, 3));
        boolean few = want >= 0 && want <= 20;
        Check.due("item " + i, few ? want * (want - 1) : -2, x.waits(3, 1, 1, 0));
    }

    private static void sheet() {
        StandingUp x = Check.withCrossings(1);
        int[] badSheets = {-1, 4, FAR, FAR_BELOW};
        for (int sheet : badSheets) {
            Check.due("sheet " + sheet, -2, x.sheet(sheet, 0, 1));
            Check.due("sheet " + sheet, -2, x.sheet(sheet, -1, 1));
        }
        int[] badSorts = {-2, 3, FAR, FAR_BELOW};
        for (int sort : badSorts) {
            Check.due("sort " + sort, -2, x.sheet(0, sort, 1));
        }
        for (int sheet = 0; sheet < 4; sheet++) {
            for (int sort = 0; sort < 3; sort++) {
                Check.due("sheet n 41", -2, x.sheet(sheet, sort, 41));
                Check.due("sheet n far", -2, x.sheet(sheet, sort, FAR));
                Check.due("sheet n -1", -14, x.sheet(sheet, sort, -1));
                Check.due("sheet n far below", -14, x.sheet(sheet, sort, FAR_BELOW));
                Check.due("bad ahead of -14", -2, x.sheet(sheet, 3, -1));
                Check.due("sheet stays missing", -11, x.cell(sheet, 0, 0));
                Check.due("sheet n 40", 1, x.sheet(sheet, sort, 40));
                Check.due("its last item", 1, x.cell(sheet, 39, 5));
                Check.due("behind it", -12, x.cell(sheet, 40, 5));
                Check.due("sheet n 0", 1, x.sheet(sheet, sort, 0));
                Check.due("no item", -12, x.cell(sheet, 0, 5));
                Check.due("a refusal changes nothing", -14, x.sheet(sheet, sort, -1));
                Check.due("no item still", -12, x.cell(sheet, 0, 5));
                Check.due("missing", 1, x.sheet(sheet, -1, sort == 0 ? -7 : sort == 1 ? 41 : FAR_BELOW));
                Check.due("missing", -11, x.cell(sheet, 0, 5));
                Check.due("missing still", 1, x.sheet(sheet, -1, 0));
            }
        }
        Check.row(x, 0, 2, 9, 8, 7);
        x.sheet(0, 2, 4);
        for (int i = 0; i < 4; i++) {
            item(x, 0, i, 0);
        }
        // the rows are apart
        Check.row(x, 1, 2, 4);
        Check.row(x, 2, 2, 5);
        item(x, 1, 0, 4);
        item(x, 2, 0, 5);
    }

    private static void cell() {
        StandingUp x = Check.withCrossings(1);
        Check.due("cell of -1", -2, x.cell(-1, 0, 0));
        Check.due("cell of 4", -2, x.cell(4, 0, 0));
        Check.due("cell of a missing one", -11, x.cell(0, -1, 0));
        x.sheet(0, 0, 3);
        int[] outside = {-1, 3, 40, FAR, FAR_BELOW};
        for (int i : outside) {
            Check.due("cell outside", -12, x.cell(0, i, 0));
        }
        int[][] kept = {{5, 5, 5, 5}, {256 + 7, 7, 263, 263}, {65536 + 9, 9, 9, 65545}, {255, -1, 255, 255},
            {65535, -1, -1, 65535}, {-1, -1, -1, -1}, {128, -128, 128, 128}, {-256 + 3, 3, -253, -253},
            {32768, 0, -32768, 32768}, {FAR, -1, -1, FAR}, {FAR_BELOW, 0, 0, FAR_BELOW}};
        for (int sort = 0; sort < 3; sort++) {
            x.sheet(0, sort, 3);
            for (int[] v : kept) {
                Check.due("cell", 1, x.cell(0, 1, v[0]));
                item(x, 0, 1, v[1 + sort]);
                item(x, 0, 0, 0);
                item(x, 0, 2, 0);
            }
        }
    }

    private static void copy() {
        StandingUp x = Check.withCrossings(1);
        Check.row(x, 0, 1, 1, 2, 3, 4, 5, 6);
        Check.row(x, 1, 1, 11, 12, 13, 14);
        Check.due("copy", 2, x.copy(0, 2, 1, 1, 2));
        items(x, 1, 11, 3, 4, 14);
        items(x, 0, 1, 2, 3, 4, 5, 6);
        Check.due("copy forth on itself", 4, x.copy(0, 0, 0, 2, 4));
        items(x, 0, 1, 2, 1, 2, 3, 4);
        Check.due("copy back on itself", 5, x.copy(0, 1, 0, 0, 5));
        items(x, 0, 2, 1, 2, 3, 4, 4);
        Check.due("copy all", 4, x.copy(1, 0, 0, 2, 4));
        items(x, 0, 2, 1, 11, 3, 4, 14);
        Check.due("copy none", 0, x.copy(0, 0, 1, 0, 0));
        Check.due("copy none at the ends", 0, x.copy(0, 6, 1, 4, 0));
        items(x, 1, 11, 3, 4, 14);
    }

    private static void items(StandingUp x, int sheet, int... want) {
        for (int i = 0; i < want.length; i++) {
            item(x, sheet, i, want[i]);
        }
    }

    private static void copyRefusals() {
        StandingUp x = Check.withCrossings(1);
        Check.row(x, 0, 1, 1, 2, 3, 4);
        Check.row(x, 1, 1, 5, 6, 7);
        Check.row(x, 2, 2, 8, 9, 10);
        Check.due("copy from -1", -2, x.copy(-1, 0, 0, 0, 1));
        Check.due("copy from 4", -2, x.copy(4, 0, 0, 0, 1));
        Check.due("copy to -1", -2, x.copy(0, 0, -1, 0, 1));
        Check.due("copy to 4", -2, x.copy(3, 0, 4, 0, 1));
        Check.due("copy from a missing one", -11, x.copy(3, 0, 0, 0, 1));
        Check.due("copy to a missing one", -11, x.copy(0, 9, 3, 0, -1));
        Check.due("copy to another sort", -13, x.copy(0, 0, 2, 0, 1));
        Check.due("copy from another sort, outside", -13, x.copy(2, -1, 0, 9, -1));
        int[][] outside = {{-1, 0, 1}, {0, -1, 1}, {0, 0, -1}, {4, 0, 1}, {5, 0, 0}, {0, 3, 1}, {0, 4, 0}, {0, 0, 4},
            {1, 0, 4}, {2, 0, 3}, {0, 1, 3}, {-1, 0, 0}, {0, -1, 0}, {FAR, 0, 1}, {0, FAR, 1}, {0, 0, FAR}, {1, 0, FAR},
            {0, 1, FAR}, {FAR, FAR, FAR}, {FAR_BELOW, 0, 1}, {0, FAR_BELOW, 1}, {0, 0, FAR_BELOW}, {1, 1, FAR_BELOW}};
        for (int[] o : outside) {
            Check.due("copy outside", -12, x.copy(0, o[0], 1, o[1], o[2]));
        }
        items(x, 1, 5, 6, 7);
        items(x, 0, 1, 2, 3, 4);
    }

    private static void rowers() {
        StandingUp x = Check.withCrossings(3);
        Check.row(x, 0, 1, 7, 3, 4572, -1, 6, 2000, 0, 1, 2091, 0, 0, 1399, 0, 4, 9002, 1);
        Check.due("three of five", 3, x.rowers(0, 1, 1, 5));
        int[][] due = {{3, 45, 7, 2, -1}, {1, 20, 9, 1, 0}, {4, 90, 0, 2, 1}};
        for (int i = 0; i < 3; i++) {
            for (int what = 0; what < 5; what++) {
                Check.due("rower " + i + " " + what, due[i][what], x.told(i, 0, what));
            }
        }
        Check.due("none of them", 0, x.rowers(0, 1, 4, 1));
        Check.due("one of them", 1, x.rowers(0, 1, 7, 1));
        Check.due("n 0", 0, x.rowers(0, 1, 0, 0));
        Check.due("n 0, outside", 0, x.rowers(0, 1, -1, 0));
        Check.due("n 0, outside", 0, x.rowers(0, 1, FAR, 0));
        Check.due("four", 4, x.count(1));
        Check.row(x, 1, 2, 0, 2000, 3, 0, 2000, 65536);
        Check.due("ints", 1, x.rowers(1, 2, 0, 2));
        Check.due("father of an int", 3, x.told(4, 0, 4));
        Check.row(x, 2, 0, 0, 2000, -1);
        Check.due("bytes hold no age", 0, x.rowers(2, 0, 0, 1));
    }

    private static void rowersPartly() {
        StandingUp x = Check.withCrossings(1);
        Check.row(x, 0, 2, 0, 2000, -1, 0, 2100, -1, 0, 2200);
        int[] outside = {-1, -2, -3, -4, 8, 9, FAR, FAR - 3, FAR_BELOW};
        for (int from : outside) {
            Check.due("rowers outside " + from, -12, x.rowers(0, 2, from, 1));
        }
        Check.due("none came", 0, x.count(1));
        Check.due("rowers partly outside", -12, x.rowers(0, 2, 0, 3));
        Check.due("what stood ahead came", 2, x.count(1));
        Check.due("the first", 20, x.told(0, 0, 1));
        Check.due("the second", 21, x.told(1, 0, 1));
        Check.due("far beyond", -12, x.rowers(0, 2, 3, 12));
        Check.due("what stood ahead came", 3, x.count(1));
        Check.due("the last one ends outside", -12, x.rowers(0, 2, 6, 1));
        Check.due("nobody more", 3, x.count(1));
    }

    private static void rowersRefusals() {
        StandingUp x = Check.withCrossings(1);
        Check.row(x, 0, 1, 0, 2000, -1);
        Check.due("rowers by -1", -2, x.rowers(-1, 1, 0, 1));
        Check.due("rowers by 4", -2, x.rowers(4, 1, 0, 1));
        Check.due("rowers sort -1", -2, x.rowers(0, -1, 0, 1));
        Check.due("rowers sort 3", -2, x.rowers(0, 3, 0, 1));
        Check.due("rowers sort -1 of a missing one", -2, x.rowers(1, -1, 0, 1));
        Check.due("rowers n -1", -2, x.rowers(0, 1, 0, -1));
        Check.due("rowers n 13", -2, x.rowers(0, 1, 0, 13));
        Check.due("rowers n 13 of a missing one", -2, x.rowers(1, 0, 0, 13));
        Check.due("rowers sort 0", -13, x.rowers(0, 0, 0, 1));
        Check.due("rowers sort 2", -13, x.rowers(0, 2, 0, 1));
        Check.due("rowers sort 2, outside", -13, x.rowers(0, 2, -1, 0));
        for (int sort = 0; sort < 3; sort++) {
            Check.due("rowers by a missing one", -11, x.rowers(1, sort, 0, 0));
            Check.due("rowers by a missing one", -11, x.rowers(1, sort, -1, 1));
        }
        Check.due("none came", 0, x.count(1));
    }

    private static void rowersFull() {
        StandingUp x = Check.withCrossings(1);
        x.sheet(0, 1, 36);
        for (int i = 0; i < 12; i++) {
            x.cell(0, 3 * i + 1, 2000);
            x.cell(0, 3 * i + 2, -1);
        }
        Check.due("twelve", 12, x.rowers(0, 1, 0, 12));
        Check.due("two more have room", 2, x.rowers(0, 1, 0, 12));
        Check.due("none has room", 0, x.rowers(0, 1, 0, 12));
        Check.due("none has room, outside", -12, x.rowers(0, 1, 3, 12));
        Check.due("fourteen", 14, x.count(1));
    }

    private static void taken() {
        StandingUp x = Check.withCrossings(1);
        for (int kind = 0; kind < 6; kind++) {
            x.rower(kind, 2000 + 10 * (kind + 2), -1);
        }
        boolean[][] under = new boolean[6][6];
        int[] above = {-1, 0, 0, 1, 0, 2};
        for (int kind = 0; kind < 6; kind++) {
            for (int k = kind; k >= 0; k = above[k]) {
                under[kind][k] = true;
            }
            for (int k = 0; k < 6; k++) {
                Check.due("kind " + kind + " taken for " + k, under[kind][k] ? kind + 2 : -13, x.taken(kind, k));
            }
        }
        int[] badKinds = {-1, 6, FAR, FAR_BELOW};
        for (int k : badKinds) {
            Check.due("taken for " + k, -2, x.taken(0, k));
            Check.due("none taken for " + k, -2, x.taken(6, k));
        }
        int[] none = {-1, 6, 14, FAR, FAR_BELOW};
        for (int rower : none) {
            Check.due("none taken", -11, x.taken(rower, 0));
        }
    }
}
