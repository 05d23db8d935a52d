/** Terms 3 (SHEETS) and promises 28 to 32: each sentence that names a bound, and both sides of it. */
final class BoundsOfSheetsTest {
    private static final int FAR = Integer.MAX_VALUE, FAR_BELOW = Integer.MIN_VALUE;

    public static void main(String[] args) {
        sheets0To3();
        missingAtFirst();
        sorts0To2();
        sizes0To40();
        allZero();
        missingAnySize();
        badAheadOfBelow0();
        itemsOfARow();
        lowestBits();
        copySorts();
        copyPlaces();
        copyOfNone();
        copyAsTheyWere();
        copyOrder();
        zeroTo12Rowers();
        rowersByAnotherSort();
        rowersOutside();
        rowersLeftOut();
        rowersOrder();
        takenForOneOf();
        takenOrder();
        Check.end();
    }

    private static int sizeOf(StandingUp x, int sheet) {
        int size = 0;
        while (size <= 40 && x.copy(sheet, size, sheet, size, 1) == 1) {
            size++;
        }
        return size;
    }

    /** An item, read as the turns of a crossing that has no rowers: -1 is right, all else is told at 6. */
    private static boolean isMinus1(StandingUp x, int sheet, int i, int sort) {
        Check.due("a sheet for it", 1, x.sheet(3, sort, 1));
        Check.due("its item", 1, x.copy(sheet, i, 3, 0, 1));
        return x.judge(0, 3) == -1;
    }

    /** An item of 0 .. 20, as one rower at a time makes them wait: 0, 2, 6, 12, .. */
    private static void item(StandingUp x, int sheet, int i, int sort, int want) {
        Check.due("a sheet for it", 1, x.sheet(3, sort, 1));
        Check.due("its item", 1, x.copy(sheet, i, 3, 0, 1));
        Check.due("item " + i, want, x.waits(3, 1, 1, 1) == 0 ? 0 : waiting(x.waits(3, 1, 1, 0)));
    }

    private static int waiting(int waits) {
        int n = 1;
        while (n < 20 && n * (n - 1) < waits) {
            n++;
        }
        return n * (n - 1) == waits ? n : -1;
    }

    /** "SHEETS 0 .. 3" */
    private static void sheets0To3() {
        int[] wrong = {FAR_BELOW, -1, 4, FAR};
        for (int sheet : wrong) {
            StandingUp x = Check.withCrossings(1);
            Check.row(x, 0, 0, 1);
            Check.due("sheet", -2, x.sheet(sheet, 0, 1));
            Check.due("sheet, missing", -2, x.sheet(sheet, -1, 1));
            Check.due("sheet, below 0", -2, x.sheet(sheet, 0, -1));
            Check.due("cell", -2, x.cell(sheet, 0, 1));
            Check.due("copy from", -2, x.copy(sheet, 0, 0, 0, 1));
            Check.due("copy to", -2, x.copy(0, 0, sheet, 0, 1));
            Check.due("rowers", -2, x.rowers(sheet, 0, 0, 0));
            Check.due("waits", -2, x.waits(sheet, 1, 1, 0));
            Check.due("judge", -2, x.judge(0, sheet));
        }
        StandingUp x = Check.withCrossings(1);
        for (int sheet = 0; sheet < 4; sheet++) {
            Check.due("sheet " + sheet, 1, x.sheet(sheet, sheet % 3, sheet + 1));
        }
        for (int sheet = 0; sheet < 4; sheet++) {
            Check.due("each has its size", sheet + 1, sizeOf(x, sheet));
        }
    }

    /** "or missing (as all are at first)" */
    private static void missingAtFirst() {
        StandingUp x = Check.withCrossings(1);
        Check.row(x, 0, 0, 1);
        for (int sheet = 1; sheet < 4; sheet++) {
            Check.due("cell", -11, x.cell(sheet, 0, 0));
            Check.due("copy from", -11, x.copy(sheet, 0, 0, 0, 0));
            Check.due("copy to", -11, x.copy(0, 0, sheet, 0, 0));
            Check.due("copy to itself", -11, x.copy(sheet, 0, sheet, 0, 0));
            Check.due("rowers", -11, x.rowers(sheet, 0, 0, 0));
            Check.due("waits", -11, x.waits(sheet, 1, 1, 0));
            Check.due("judge", -11, x.judge(0, sheet));
        }
    }

    /** "of sort 0 bytes, 1 shorts, 2 ints"; promise 28: "BAD: no such .. sort" */
    private static void sorts0To2() {
        StandingUp x = new StandingUp();
        int[] wrong = {FAR_BELOW, -2, 3, 4, FAR};
        for (int sort : wrong) {
            Check.due("sort " + sort, -2, x.sheet(0, sort, 1));
            Check.due("missing still", -11, x.cell(0, 0, 0));
        }
        for (int sort = 0; sort < 3; sort++) {
            Check.due("sort " + sort, 1, x.sheet(0, sort, 1));
            for (int other = 0; other < 3; other++) {
                Check.due("taken for " + other, sort == other ? 0 : -13, x.rowers(0, other, 0, 0));
            }
        }
        for (int sort : wrong) {
            Check.due("sort " + sort, -2, x.sheet(0, sort, 2));
            Check.due("ints still", 0, x.rowers(0, 2, 0, 0));
            Check.due("one still", 1, sizeOf(x, 0));
        }
    }

    /** Promise 28: "n above 40; -14." */
    private static void sizes0To40() {
        for (int sort = 0; sort < 3; sort++) {
            for (int n = -2; n <= 42; n++) {
                StandingUp x = new StandingUp();
                Check.due("size " + n, n < 0 ? -14 : n > 40 ? -2 : 1, x.sheet(0, sort, n));
                Check.due("the last item", n < 0 || n > 40 ? -11 : n == 0 ? -12 : 1, x.cell(0, n - 1, 1));
                Check.due("the item behind", n < 0 || n > 40 ? -11 : -12, x.cell(0, n, 1));
            }
            StandingUp x = new StandingUp();
            Check.due("size far", -2, x.sheet(0, sort, FAR));
            Check.due("size far below", -14, x.sheet(0, sort, FAR_BELOW));
        }
    }

    /** Promise 28: "A SHEET becomes a row of n of a sort, all 0" */
    private static void allZero() {
        StandingUp x = Check.withCrossings(1);
        for (int sort = 0; sort < 3; sort++) {
            Check.row(x, 0, sort, 7, 7, 7, 7, 7);
            item(x, 0, 4, sort, 7);
            x.sheet(0, (sort + 1) % 3, 2);
            x.sheet(0, sort, 5);
            for (int i = 0; i < 5; i++) {
                item(x, 0, i, sort, 0);
            }
            Check.row(x, 0, sort, 7, 7);
            Check.due("anew", 1, x.sheet(0, sort, 2));
            item(x, 0, 0, sort, 0);
            item(x, 0, 1, sort, 0);
        }
    }

    /** Promise 28: "or missing (sort -1: n does not matter): 1" */
    private static void missingAnySize() {
        StandingUp x = new StandingUp();
        int[] sizes = {FAR_BELOW, -1, 0, 1, 40, 41, FAR};
        for (int n : sizes) {
            Check.due("missing", 1, x.sheet(0, -1, n));
            Check.due("it is", -11, x.cell(0, 0, 0));
            Check.due("a row", 1, x.sheet(0, 2, 3));
            Check.due("it is", 1, x.cell(0, 2, 5));
            Check.due("missing again", 1, x.sheet(0, -1, n));
            Check.due("it is", -11, x.cell(0, 2, 5));
        }
    }

    /** Promise 28: "BAD: no such SHEET, sort; n above 40; -14." */
    private static void badAheadOfBelow0() {
        StandingUp x = new StandingUp();
        Check.due("no such sheet", -2, x.sheet(4, 0, -1));
        Check.due("no such sort", -2, x.sheet(0, 3, -1));
        Check.due("no such sort", -2, x.sheet(0, -2, -1));
        Check.due("below 0", -14, x.sheet(0, 2, -1));
    }

    /** Promise 29: "BAD: no such SHEET; -11; -12." */
    private static void itemsOfARow() {
        for (int size = 0; size <= 40; size += 4) {
            StandingUp x = new StandingUp();
            x.sheet(0, size % 3, size);
            for (int i = -2; i < 43; i++) {
                Check.due("item " + i + " of " + size, i >= 0 && i < size ? 1 : -12, x.cell(0, i, 5));
            }
            Check.due("item far", -12, x.cell(0, FAR, 5));
            Check.due("item far below", -12, x.cell(0, FAR_BELOW, 5));
            Check.due("missing ahead of outside", -11, x.cell(1, -1, 5));
            Check.due("no such sheet ahead of outside", -2, x.cell(4, -1, 5));
        }
    }

    /** Promise 29: "(of bytes, shorts its lowest 8, 16 bits)" */
    private static void lowestBits() {
        int[][] minus1 = {{255, -1, FAR, 0x1ff, -257, 0xffff}, {65535, -1, FAR, 0x1ffff, -65537}, {-1}};
        int[][] other = {{127, 128, 254, 256, -2, FAR_BELOW, 0x7f00}, {255, 65534, 65536, 32767, 32768, FAR_BELOW},
            {255, 65535, FAR, FAR_BELOW, -2, 0}};
        for (int sort = 0; sort < 3; sort++) {
            StandingUp x = Check.withCrossings(1);
            x.sheet(0, sort, 3);
            for (int v : minus1[sort]) {
                Check.due("cell", 1, x.cell(0, 1, v));
                Check.due(v + " of sort " + sort, 1, isMinus1(x, 0, 1, sort) ? 1 : 0);
                Check.due("its neighbours stay", 0, isMinus1(x, 0, 0, sort) || isMinus1(x, 0, 2, sort) ? 1 : 0);
            }
            for (int v : other[sort]) {
                Check.due("cell", 1, x.cell(0, 1, v));
                Check.due(v + " of sort " + sort, 0, isMinus1(x, 0, 1, sort) ? 1 : 0);
            }
        }
        StandingUp x = Check.withCrossings(1);
        int[] values = {256 + 9, 65536 + 9, -256 + 9, -65536 + 9, FAR_BELOW + 9, 9};
        for (int v : values) {
            x.sheet(0, 0, 1);
            x.cell(0, 0, v);
            item(x, 0, 0, 0, 9);
            x.sheet(0, 1, 1);
            x.cell(0, 0, v);
            Check.due(v + " as a short", (short) v == 9 ? 72 : -2, x.waits(0, 1, 1, 0));
            x.sheet(0, 2, 1);
            x.cell(0, 0, v);
            Check.due(v + " as an int", v == 9 ? 72 : -2, x.waits(0, 1, 1, 0));
        }
        // a row by bytes: a rower whose father is none
        StandingUp y = Check.withCrossings(1);
        Check.row(y, 0, 1, 0, 65536 + 2000, 65535);
        Check.due("shorts", 1, y.rowers(0, 1, 0, 1));
        Check.due("none is its father", -1, y.told(0, 0, 4));
        Check.row(y, 0, 2, 0, 2000, 65535);
        Check.due("ints", 0, y.rowers(0, 2, 0, 1));
    }

    /** Promise 30: "-13: they are of unlike sorts" */
    private static void copySorts() {
        StandingUp x = new StandingUp();
        for (int one = 0; one < 3; one++) {
            for (int other = 0; other < 3; other++) {
                x.sheet(0, one, 2);
                x.sheet(1, other, 2);
                Check.due("copy", one == other ? 2 : -13, x.copy(0, 0, 1, 0, 2));
                Check.due("copy of none", one == other ? 0 : -13, x.copy(0, 0, 1, 0, 0));
                Check.due("copy outside", one == other ? -12 : -13, x.copy(0, 0, 1, 0, 3));
            }
        }
    }

    /** Promise 30: "-12 (also with n below 0)" */
    private static void copyPlaces() {
        StandingUp x = new StandingUp();
        x.sheet(0, 1, 3);
        x.sheet(1, 1, 2);
        for (int i = -1; i <= 4; i++) {
            for (int j = -1; j <= 3; j++) {
                for (int n = -1; n <= 4; n++) {
                    boolean inside = i >= 0 && j >= 0 && n >= 0 && i + n <= 3 && j + n <= 2;
                    Check.due("copy " + i + ", " + j + ", " + n, inside ? n : -12, x.copy(0, i, 1, j, n));
                }
            }
        }
        int[] far = {FAR_BELOW, -1, 0, 1, FAR};
        for (int i : far) {
            for (int j : far) {
                for (int n : far) {
                    boolean inside = (i == 0 || i == 1) && (j == 0 || j == 1) && (n == 0 || n == 1);
                    Check.due("copy " + i + ", " + j + ", " + n, inside ? n : -12, x.copy(0, i, 1, j, n));
                }
            }
        }
    }

    /** n of 0 is a copy of nothing, at the end of a row, too. */
    private static void copyOfNone() {
        StandingUp x = Check.withCrossings(1);
        x.sheet(0, 0, 0);
        Check.row(x, 1, 0, 5);
        Check.due("of an empty one", 0, x.copy(0, 0, 1, 0, 0));
        Check.due("to an empty one", 0, x.copy(1, 0, 0, 0, 0));
        Check.due("at the end", 0, x.copy(1, 1, 1, 1, 0));
        Check.due("behind the end", -12, x.copy(1, 2, 1, 1, 0));
        Check.due("to behind the end", -12, x.copy(1, 1, 1, 2, 0));
        Check.due("one of an empty one", -12, x.copy(0, 0, 1, 0, 1));
        Check.due("one to an empty one", -12, x.copy(1, 0, 0, 0, 1));
        item(x, 1, 0, 0, 5);
    }

    /** Promise 30: "come to another one's item j on (as they were)" */
    private static void copyAsTheyWere() {
        for (int i = 0; i < 5; i++) {
            for (int j = 0; j < 5; j++) {
                StandingUp x = Check.withCrossings(1);
                Check.row(x, 0, 0, 1, 2, 3, 4, 5);
                int n = Math.min(5 - i, 5 - j);
                Check.due("copy on itself", n, x.copy(0, i, 0, j, n));
                for (int k = 0; k < 5; k++) {
                    item(x, 0, k, 0, k >= j && k < j + n ? i + k - j + 1 : k + 1);
                }
            }
        }
        StandingUp x = Check.withCrossings(1);
        int[] forty = new int[40];
        for (int k = 0; k < 40; k++) {
            forty[k] = k % 21;
        }
        Check.row(x, 0, 2, forty);
        x.sheet(1, 2, 40);
        Check.due("forty", 40, x.copy(0, 0, 1, 0, 40));
        for (int k = 0; k < 40; k++) {
            item(x, 1, k, 2, k % 21);
        }
    }

    /** Promise 30: "BAD: no such SHEET; -11; -13 ..; -12" */
    private static void copyOrder() {
        StandingUp x = new StandingUp();
        x.sheet(0, 0, 1);
        x.sheet(1, 1, 1);
        Check.due("bad ahead of missing", -2, x.copy(2, 0, 4, 0, -1));
        Check.due("bad ahead of missing", -2, x.copy(-1, 0, 2, 0, -1));
        Check.due("missing ahead of outside", -11, x.copy(0, -1, 2, 0, -1));
        Check.due("missing ahead of outside", -11, x.copy(2, -1, 1, 0, -1));
        Check.due("unlike sorts ahead of outside", -13, x.copy(0, -1, 1, 9, -1));
        Check.due("outside", -12, x.copy(0, 1, 0, 0, 1));
    }

    /** Twelve and a row of four more, all of them rowers. */
    private static StandingUp withRows(int rows) {
        StandingUp x = Check.withCrossings(1);
        x.sheet(0, 1, 3 * rows);
        for (int k = 0; k < rows; k++) {
            x.cell(0, 3 * k + 1, 1400 + 100 * k);
            x.cell(0, 3 * k + 2, -1);
        }
        return x;
    }

    /** Promise 31: "n of them (0 .. 12): how many came"; "BAD: .. n" */
    private static void zeroTo12Rowers() {
        for (int n = -2; n < 15; n++) {
            StandingUp x = withRows(13);
            Check.due("rowers " + n, n >= 0 && n <= 12 ? n : -2, x.rowers(0, 1, 0, n));
            Check.due("so many", n >= 0 && n <= 12 ? n : 0, x.count(1));
        }
        StandingUp x = withRows(1);
        Check.due("n far", -2, x.rowers(0, 1, 0, FAR));
        Check.due("n far below", -2, x.rowers(0, 1, 0, FAR_BELOW));
        int[] anywhere = {FAR_BELOW, -1, 0, 3, 40, FAR};
        for (int from : anywhere) {
            Check.due("none, from " + from, 0, x.rowers(0, 1, from, 0));
        }
        Check.due("none came", 0, x.count(1));
    }

    /** Promise 31: "a SHEET that is taken for one of a sort"; "BAD: .. sort .. -13" */
    private static void rowersByAnotherSort() {
        int[] wrong = {FAR_BELOW, -2, -1, 3, FAR};
        for (int sort = 0; sort < 3; sort++) {
            StandingUp x = Check.withCrossings(1);
            Check.row(x, 0, sort, 0, 2000, -1);
            for (int other : wrong) {
                Check.due("sort " + other, -2, x.rowers(0, other, 0, 1));
            }
            for (int other = 0; other < 3; other++) {
                if (other != sort) {
                    Check.due("sort " + other, -13, x.rowers(0, other, 0, 1));
                }
            }
            Check.due("none came", 0, x.count(1));
            Check.due("its own sort", sort == 0 ? 0 : 1, x.rowers(0, sort, 0, 1));
        }
    }

    /** Promise 31: "from one on, three by three"; "-12: what stood ahead came" */
    private static void rowersOutside() {
        int[] outside = {FAR_BELOW, -3, -2, -1, 10, 11, 12, 13, 40, FAR - 2, FAR - 1, FAR};
        for (int from : outside) {
            StandingUp x = withRows(4);
            Check.due("from " + from, -12, x.rowers(0, 1, from, 1));
            Check.due("from " + from, -12, x.rowers(0, 1, from, 12));
            Check.due("none came", 0, x.count(1));
        }
        for (int from = 0; from < 10; from += 3) {
            int rows = 4 - from / 3;
            for (int n = 1; n < 7; n++) {
                StandingUp x = withRows(4);
                Check.due("from " + from + ", " + n, n <= rows ? n : -12, x.rowers(0, 1, from, n));
                Check.due("what stood ahead came", Math.min(n, rows), x.count(1));
                Check.due("the first of them", 14 + from / 3, x.told(0, 0, 1));
            }
        }
        for (int size = 1; size <= 7; size++) {
            StandingUp x = Check.withCrossings(1);
            x.sheet(0, 2, size);
            for (int k = 1; k < size; k += 3) {
                x.cell(0, k, 2000);
            }
            for (int k = 2; k < size; k += 3) {
                x.cell(0, k, -1);
            }
            Check.due("of " + size, size < 3 ? -12 : size < 6 ? -12 : 2, x.rowers(0, 2, 0, 2));
            Check.due("came", size / 3, x.count(1));
        }
        StandingUp x = Check.withCrossings(1);
        x.sheet(0, 1, 0);
        Check.due("of an empty one", -12, x.rowers(0, 1, 0, 1));
        Check.due("none of an empty one", 0, x.rowers(0, 1, 0, 0));
    }

    /** Promise 31: "(others are left out)" */
    private static void rowersLeftOut() {
        StandingUp x = Check.withCrossings(1);
        Check.row(x, 0, 2, 6, 2000, -1, 0, 1399, -1, 0, 2000, 0, 0, 2000, -1, 0, 2100, 0, 0, 2200, 2, 0, 2300, 1);
        Check.due("three of seven", 3, x.rowers(0, 2, 0, 7));
        Check.due("three", 3, x.count(1));
        Check.due("the last one's father", 1, x.told(2, 0, 4));
        StandingUp y = withRows(13);
        Check.due("twelve", 12, y.rowers(0, 1, 0, 12));
        Check.due("two have room", 2, y.rowers(0, 1, 0, 5));
        Check.due("none has room", 0, y.rowers(0, 1, 0, 12));
        Check.due("none has room, and outside", -12, y.rowers(0, 1, 36, 2));
        Check.due("fourteen", 14, y.count(1));
    }

    /** Promise 31: "BAD: no such SHEET, sort, n; -13; -11; -12" */
    private static void rowersOrder() {
        StandingUp x = withRows(1);
        Check.due("bad sheet ahead of all", -2, x.rowers(4, 0, -1, 1));
        Check.due("bad sort ahead of missing", -2, x.rowers(1, 3, -1, 1));
        Check.due("bad n ahead of missing", -2, x.rowers(1, 0, -1, 13));
        Check.due("bad n ahead of another sort", -2, x.rowers(0, 0, -1, 13));
        Check.due("another sort ahead of outside", -13, x.rowers(0, 0, -1, 1));
        Check.due("missing ahead of outside", -11, x.rowers(1, 0, -1, 1));
        Check.due("outside", -12, x.rowers(0, 1, -1, 1));
    }

    /** Promise 32: "one of KIND k (0 .. 5), or one under that one (also by others between): its NUMBER" */
    private static void takenForOneOf() {
        String[] under = {"0", "01", "02", "013", "04", "025"};
        for (int kind = 0; kind < 6; kind++) {
            for (int number = 0; number < 10; number += 9) {
                StandingUp x = Check.withCrossings(1);
                x.rower(kind, 2000 + 10 * number, -1);
                for (int k = -1; k <= 6; k++) {
                    boolean some = under[kind].indexOf('0' + k) >= 0;
                    int due = k < 0 || k > 5 ? -2 : some ? number : -13;
                    Check.due("kind " + kind + " taken for " + k, due, x.taken(0, k));
                }
            }
        }
    }

    /** Promise 32: "BAD: k; -11: no such ROWER; -13." */
    private static void takenOrder() {
        StandingUp x = Check.withCrossings(1);
        Check.due("none at all", -11, x.taken(0, 0));
        x.rower(4, 2050, -1);
        int[] kinds = {FAR_BELOW, -1, 6, FAR};
        int[] rowers = {FAR_BELOW, -1, 1, 13, 14, FAR};
        for (int rower : rowers) {
            for (int k : kinds) {
                Check.due("bad ahead of none", -2, x.taken(rower, k));
            }
            for (int k = 0; k < 6; k++) {
                Check.due("none such", -11, x.taken(rower, k));
            }
        }
        Check.due("another kind", -13, x.taken(0, 1));
        Check.due("its own", 5, x.taken(0, 4));
        Check.due("a rower", 5, x.taken(0, 0));
    }
}
