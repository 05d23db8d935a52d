import java.util.Arrays;
import java.util.Random;

/** Promise 12: waits. */
final class WaitsTest {
    public static void main(String[] args) {
        plain();
        refusals();
        sortsOfSheets();
        longest();
        manyAtRandom();
        Check.end();
    }

    private static void both(StandingUp x, int sheet, int t, int most, int least, int minutes) {
        Check.due("waits " + t + ", " + most, least, x.waits(sheet, t, most, 0));
        Check.due("waits minutes " + t + ", " + most, minutes, x.waits(sheet, t, most, 1));
    }

    private static void plain() {
        StandingUp x = new StandingUp();
        Check.row(x, 0, 0, 3, 0, 0, 5, 2, 0, 0, 0, 1);
        both(x, 0, 2, 4, 17, 0b100010001);
        both(x, 0, 2, 14, 5, 0b100010001);
        Check.row(x, 0, 0, 0);
        both(x, 0, 1, 1, 0, 0);
        Check.row(x, 0, 0, 1);
        both(x, 0, 9, 1, 0, 1);
        Check.row(x, 0, 0, 0, 0, 0, 0);
        both(x, 0, 9, 1, 0, 0);
        // a boat that stays for more of them
        Check.row(x, 0, 0, 1, 9);
        both(x, 0, 9, 14, 1, 2);
        // it may not stay in the last minute
        Check.row(x, 0, 0, 0, 2);
        both(x, 0, 1, 1, 2, 2);
        // alike: 2 wait a minute whether it puts off at 0 or not; the least bits
        Check.row(x, 0, 0, 1, 1);
        both(x, 0, 1, 2, 1, 1);
        Check.row(x, 0, 0, 1, 0, 1);
        both(x, 0, 1, 1, 0, 5);
        // back in just the last minute, and just behind it
        Check.row(x, 0, 0, 5, 0, 3);
        both(x, 0, 1, 14, 0, 5);
        Check.row(x, 0, 0, 5, 3);
        both(x, 0, 1, 14, 3, 1);
        Check.row(x, 0, 0, 20);
        both(x, 0, 1, 14, 12, 1);
        both(x, 0, 9, 14, 108, 1);
        both(x, 0, 9, 1, 18 * 190, 1);
        both(x, 0, 1, 10, 20, 1);
    }

    private static void refusals() {
        StandingUp x = new StandingUp();
        Check.row(x, 0, 2, 1, 2);
        int[] badSheets = {-1, 4, Integer.MAX_VALUE, Integer.MIN_VALUE};
        for (int sheet : badSheets) {
            Check.due("waits sheet", -2, x.waits(sheet, 1, 1, 0));
        }
        int[] badTimes = {0, 10, -1, Integer.MAX_VALUE};
        int[] badMost = {0, 15, -1, Integer.MAX_VALUE};
        int[] badWhat = {-1, 2, Integer.MAX_VALUE};
        for (int sheet = 0; sheet < 2; sheet++) {
            for (int t : badTimes) {
                Check.due("waits t", -2, x.waits(sheet, t, 1, 0));
            }
            for (int most : badMost) {
                Check.due("waits most", -2, x.waits(sheet, 1, most, 0));
            }
            for (int what : badWhat) {
                Check.due("waits what", -2, x.waits(sheet, 1, 1, what));
            }
        }
        Check.due("waits missing", -11, x.waits(1, 1, 1, 0));
        Check.row(x, 1, 2);
        Check.due("waits size 0", -2, x.waits(1, 1, 1, 0));
        x.sheet(1, 2, 25);
        Check.due("waits size 25", -2, x.waits(1, 1, 1, 0));
        x.sheet(1, 2, 24);
        Check.due("waits size 24", 0, x.waits(1, 1, 1, 0));
        int[] badNumbers = {-1, 21, 256, 65536, Integer.MAX_VALUE, Integer.MIN_VALUE};
        for (int v : badNumbers) {
            x.cell(1, 23, v);
            Check.due("waits number " + v, -2, x.waits(1, 1, 1, 0));
        }
        x.cell(1, 23, 20);
        Check.due("waits number 20", 12, x.waits(1, 1, 14, 0));
        Check.due("waits 9, 14", 1, x.waits(0, 9, 14, 0));
        x.sheet(1, -1, 0);
        Check.due("waits missing again", -11, x.waits(1, 1, 1, 0));
    }

    private static void sortsOfSheets() {
        StandingUp x = new StandingUp();
        for (int sort = 0; sort < 3; sort++) {
            Check.row(x, 3, sort, 20, 0, 20);
            both(x, 3, 1, 14, 6 + 6 + 2 * 12, 5);
        }
        Check.row(x, 3, 0, 250);
        Check.due("waits of a byte below 0", -2, x.waits(3, 1, 1, 0));
    }

    private static void longest() {
        int[] full = new int[24];
        Arrays.fill(full, 20);
        for (int t = 4; t <= 9; t++) {
            for (int atOnce = 1; atOnce <= 14; atOnce++) {
                asTried(t, atOnce, 1, full);
            }
        }
        asTried(1, 14, 0, full);
        asTried(1, 1, 0, full);
    }

    // ---- by trying all plans

    private static int[] came;
    private static int trip, most;
    private static long bestWaits;
    private static int bestBits;

    private static void tryAll(int minute, int back, int waiting, long waits, int bits) {
        int n = came.length;
        if (minute >= n) {
            long all = waits + waitsBehind(minute, back, waiting);
            if (all < bestWaits || all == bestWaits && bits < bestBits) {
                bestWaits = all;
                bestBits = bits;
            }
            return;
        }
        int now = waiting + came[minute];
        boolean there = minute >= back;
        if (there && now > 0) {
            int left = Math.max(0, now - most);
            tryAll(minute + 1, minute + trip, left, waits + left, bits | 1 << minute);
        }
        if (!there || now == 0 || minute < n - 1) {
            tryAll(minute + 1, back, now, waits + now, bits);
        }
    }

    /** Minute by minute behind the last one, till nobody waits. */
    private static long waitsBehind(int from, int backFirst, int waitingFirst) {
        int back = backFirst, waiting = waitingFirst;
        long waits = 0;
        for (int minute = from; waiting > 0; minute++) {
            if (minute >= back) {
                waiting = Math.max(0, waiting - most);
                back = minute + trip;
            }
            waits += waiting;
        }
        return waits;
    }

    private static void manyAtRandom() {
        Random random = new Random(3);
        for (int run = 0; run < 1500; run++) {
            int n = 1 + random.nextInt(run % 50 == 0 ? 24 : 14);
            int[] row = new int[n];
            int bound = 1 + random.nextInt(21);
            for (int i = 0; i < n; i++) {
                row[i] = random.nextInt(3) == 0 ? 0 : random.nextInt(bound);
            }
            int t = 1 + random.nextInt(n > 20 ? 9 : 4);
            asTried(t, 1 + random.nextInt(14), random.nextInt(3), row);
        }
    }

    private static void asTried(int t, int atOnce, int sort, int[] row) {
        came = row;
        most = atOnce;
        trip = 2 * t;
        bestWaits = Long.MAX_VALUE;
        bestBits = 0;
        tryAll(0, 0, 0, 0, 0);
        StandingUp x = new StandingUp();
        Check.row(x, 2, sort, row);
        both(x, 2, t, most, (int) bestWaits, bestBits);
    }
}
