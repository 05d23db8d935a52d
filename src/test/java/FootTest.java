import java.util.Random;

/** Promises 17 to 21: open, path, foot, lost, fog. */
final class FootTest {
    public static void main(String[] args) {
        open();
        openAtRandom();
        path();
        foot();
        lost();
        waysAtRandom();
        fog();
        fogRefusals();
        fogAtRandom();
        Check.end();
    }

    private static void open() {
        StandingUp x = new StandingUp();
        Check.due("open of none", 0, x.open(42, 0));
        x.crossing(31, 12);
        x.crossing(30, 23);
        x.crossing(5, 34);
        Check.due("open without heads", 0, x.open(42, 0));
        Check.due("rowers without heads", 0, x.open(42, 2));
        x.set(20, 100);
        x.set(21, 60);
        x.set(22, 60);
        int[] crossings = {0, 0, 2, 1, 6, 3, 3, 7, 7};
        int[] heads = {0, 0, 60, 100, 120, 160, 160, 220, 220};
        int[] rowers = {0, 0, 2, 3, 4, 5, 5, 7, 7};
        for (int n = 0; n < crossings.length; n++) {
            Check.due("open " + n, crossings[n], x.open(n, 0));
            Check.due("heads " + n, heads[n], x.open(n, 1));
            Check.due("rowers " + n, rowers[n], x.open(n, 2));
        }
        x.set(10, 0);
        Check.due("be it shut", 1, x.open(3, 0));
        x.set(20, 60);
        Check.due("of like ones the fewest rowers", 2, x.open(3, 0));
        x.set(20, 120);
        Check.due("fewest rowers again", 1, x.open(4, 0));
        int[] badRowers = {-1, 43, Integer.MAX_VALUE};
        for (int n : badRowers) {
            Check.due("open bad rowers", -2, x.open(n, 0));
        }
        int[] badWhat = {-1, 3, Integer.MIN_VALUE};
        for (int what : badWhat) {
            Check.due("open bad what", -2, x.open(0, what));
        }
        Check.due("open 42", 7, x.open(42, 0));
    }

    private static void openAtRandom() {
        Random random = new Random(5);
        for (int run = 0; run < 200; run++) {
            StandingUp x = new StandingUp();
            int n = 1 + random.nextInt(7);
            int[] needs = new int[n];
            int[] heads = new int[n];
            for (int i = 0; i < n; i++) {
                int strokes = 25 + random.nextInt(12);
                needs[i] = strokes > 30 ? 3 : 2;
                heads[i] = random.nextInt(4) * 100;
                x.crossing(strokes, 12);
                x.set(20 + i, heads[i]);
            }
            int rowers = random.nextInt(22);
            int best = 0;
            long bestWorth = 0;
            for (int some = 0; some < 1 << n; some++) {
                int head = 0, need = 0;
                for (int i = 0; i < n; i++) {
                    head += (some & 1 << i) != 0 ? heads[i] : 0;
                    need += (some & 1 << i) != 0 ? needs[i] : 0;
                }
                long worth = head * 1000000L - need * 1000L - some;
                if (need <= rowers && worth > bestWorth) {
                    best = some;
                    bestWorth = worth;
                }
            }
            int head = 0, need = 0;
            for (int i = 0; i < n; i++) {
                head += (best & 1 << i) != 0 ? heads[i] : 0;
                need += (best & 1 << i) != 0 ? needs[i] : 0;
            }
            Check.due("open at random", best, x.open(rowers, 0));
            Check.due("open at random, heads", head, x.open(rowers, 1));
            Check.due("open at random, rowers", need, x.open(rowers, 2));
        }
    }

    private static void path() {
        StandingUp x = new StandingUp();
        int[] bad = {0, 11, 99, 100, -1, -12, Integer.MIN_VALUE, Integer.MAX_VALUE};
        for (int landings : bad) {
            Check.due("path " + landings, -2, x.path(landings, 1));
        }
        Check.due("path -1", -2, x.path(12, -1));
        Check.due("path 100", -2, x.path(12, 100));
        Check.due("path", 0, x.path(12, 99));
        Check.due("path goes both ways", 99, x.path(21, 7));
        Check.due("path was", 7, x.path(12, 0));
        Check.due("path was none", 0, x.path(21, 1));
        Check.due("other path", 0, x.path(98, 3));
        Check.due("other path was", 3, x.path(89, 3));
        Check.due("first path stayed", 1, x.path(12, 1));
    }

    private static void foot() {
        StandingUp x = new StandingUp();
        int[] bad = {-1, 100, Integer.MIN_VALUE, Integer.MAX_VALUE};
        for (int landings : bad) {
            Check.due("foot " + landings, -2, x.foot(landings));
        }
        Check.due("foot alike", 0, x.foot(0));
        Check.due("foot alike", 0, x.foot(99));
        Check.due("foot no way", -1, x.foot(98));
        x.path(12, 99);
        Check.due("foot path", 99, x.foot(12));
        Check.due("foot path back", 99, x.foot(21));
        x.crossing(60, 12);
        Check.due("foot crossing", 5, x.foot(12));
        Check.due("foot crossing back", 5, x.foot(21));
        x.set(10, 0);
        Check.due("foot shut", 99, x.foot(12));
        x.path(12, 0);
        Check.due("foot none", -1, x.foot(12));
        x.set(10, 1);
        x.path(12, 4);
        Check.due("foot less than a crossing", 4, x.foot(12));
        x.path(23, 99);
        x.path(39, 99);
        Check.due("foot of three", 202, x.foot(19));
        x.path(91, 98);
        Check.due("foot of one", 98, x.foot(19));
        Check.due("foot alike still", 0, x.foot(11));
    }

    private static void lost() {
        StandingUp x = new StandingUp();
        Check.due("lost by none", -2, x.lost(0));
        x.crossing(31, 12);
        x.crossing(30, 23);
        x.crossing(5, 34);
        x.path(14, 9);
        x.path(45, 1);
        Check.due("lost 0", 18, x.lost(0));
        Check.due("lost 2", 36, x.lost(2));
        Check.due("it is open still", 3, x.count(2));
        Check.due("and so is the way", 5, x.foot(12));
        x.set(10, 0);
        Check.due("lost by a shut one", 0, x.lost(0));
        Check.due("it is shut still", 0, x.set(10, 1));
        Check.due("lost -1", -2, x.lost(-1));
        Check.due("lost 3", -2, x.lost(3));
        Check.due("lost far", -2, x.lost(Integer.MAX_VALUE));
        StandingUp y = new StandingUp();
        y.crossing(1, 12);
        Check.due("lost with no way", 100, y.lost(0));
        y.crossing(1, 21);
        Check.due("lost with one like it", 0, y.lost(0));
        y.set(11, 0);
        y.path(23, 7);
        Check.due("lost by two pairs", 200, y.lost(0));
        y.path(12, 99);
        Check.due("lost by a long path", 94 * 2, y.lost(0));
    }

    private static int[][] ways(int[][] edges) {
        int[][] least = new int[10][10];
        for (int from = 0; from < 10; from++) {
            for (int i = 0; i < 10; i++) {
                least[from][i] = i == from ? 0 : 99999;
            }
            for (int round = 0; round < 10; round++) {
                for (int a = 0; a < 10; a++) {
                    for (int b = 0; b < 10; b++) {
                        if (edges[a][b] > 0 && least[from][a] < 99999) {
                            least[from][b] = Math.min(least[from][b], least[from][a] + edges[a][b]);
                        }
                    }
                }
            }
        }
        return least;
    }

    private static void edge(int[][] edges, int a, int b, int minutes) {
        if (minutes > 0 && (edges[a][b] == 0 || minutes < edges[a][b])) {
            edges[a][b] = minutes;
            edges[b][a] = minutes;
        }
    }

    private static void waysAtRandom() {
        Random random = new Random(11);
        for (int run = 0; run < 60; run++) {
            StandingUp x = new StandingUp();
            int[] landings = new int[7];
            boolean[] open = new boolean[7];
            for (int i = 0; i < 7; i++) {
                int a = random.nextInt(10);
                landings[i] = 10 * a + (a + 1 + random.nextInt(9)) % 10;
                x.crossing(9, landings[i]);
                open[i] = random.nextInt(4) != 0;
                x.set(10 + i, open[i] ? 1 : 0);
            }
            int[][] paths = new int[10][10];
            for (int i = random.nextInt(9); i > 0; i--) {
                int a = random.nextInt(10);
                int b = (a + 1 + random.nextInt(9)) % 10;
                int minutes = random.nextInt(3) == 0 ? random.nextInt(100) : random.nextInt(9);
                x.path(10 * a + b, minutes);
                paths[a][b] = minutes;
                paths[b][a] = minutes;
            }
            int[][] now = waysWithout(paths, landings, open, -1);
            for (int i = 0; i < 100; i++) {
                int due = now[i / 10][i % 10];
                Check.due("foot at random " + i, due == 99999 ? -1 : due, x.foot(i));
            }
            for (int c = 0; c < 7; c++) {
                int[][] then = waysWithout(paths, landings, open, c);
                int sum = 0;
                for (int a = 0; a < 10; a++) {
                    for (int b = 0; b < a; b++) {
                        if (now[a][b] < 99999) {
                            sum += then[a][b] < 99999 ? then[a][b] - now[a][b] : 100;
                        }
                    }
                }
                Check.due("lost at random", sum, x.lost(c));
            }
        }
    }

    private static int[][] waysWithout(int[][] paths, int[] landings, boolean[] open, int without) {
        int[][] edges = new int[10][10];
        for (int a = 0; a < 10; a++) {
            for (int b = 0; b < 10; b++) {
                edge(edges, a, b, paths[a][b]);
            }
        }
        for (int i = 0; i < 7; i++) {
            if (open[i] && i != without) {
                edge(edges, landings[i] / 10, landings[i] % 10, 5);
            }
        }
        return ways(edges);
    }

    private static void near(int one, int other, int bell, int least, int minute, int met) {
        StandingUp x = new StandingUp();
        String call = "fog " + one + ", " + other + ", " + bell + ", ";
        Check.due(call + 0, least, x.fog(one, other, bell, 0));
        Check.due(call + 1, minute, x.fog(one, other, bell, 1));
        Check.due(call + 2, met, x.fog(one, other, bell, 2));
    }

    private static void fog() {
        near(2, 632, 10, 1, 31, 1);
        near(12, 310, 39, 0, 18, 1);
        near(300, 310, 11, 0, 60, 1);
        near(301, 301, 10, 0, 0, 1);
        near(630, 622, 19, 1, 0, 1);
        // boats that stay
        near(1, 631, 99, 63, 0, 0);
        near(101, 211, 99, 11, 0, 0);
        // one ahead of the other one, as fast
        near(102, 112, 90, 1, 0, 1);
        // at the ends: turned about and gone on in the same minute
        near(0, 21, 90, 0, 2, 1);
        near(632, 601, 90, 0, 3, 1);
        near(0, 1, 90, 0, 0, 1);
        // neither minute 0 nor a distance above what is heard stops a boat
        near(101, 142, 90, 4, 0, 0);
        near(101, 140, 12, 2, 2, 0);
        near(101, 140, 22, 2, 2, 0);
        near(101, 140, 32, 1, 3, 0);
        near(101, 140, 42, 0, 4, 1);
        near(101, 140, 11, 1, 3, 0);
        near(101, 140, 10, 0, 4, 1);
        // the least distance in minute 60, and none behind it
        near(0, 611, 10, 1, 60, 0);
        near(2, 601, 90, 0, 60, 1);
        near(2, 611, 90, 1, 60, 0);
    }

    private static void fogRefusals() {
        StandingUp x = new StandingUp();
        int[] badBoats = {-1, 3, 9, 13, 633, 639, 640, 642, -10, Integer.MIN_VALUE, Integer.MAX_VALUE};
        for (int boat : badBoats) {
            Check.due("fog one " + boat, -2, x.fog(boat, 0, 10, 0));
            Check.due("fog other " + boat, -2, x.fog(0, boat, 10, 0));
        }
        int[] badBells = {9, 0, -1, 100, Integer.MAX_VALUE};
        for (int bell : badBells) {
            Check.due("fog bell " + bell, -2, x.fog(0, 0, bell, 0));
        }
        int[] badWhat = {-1, 3, Integer.MIN_VALUE};
        for (int what : badWhat) {
            Check.due("fog what", -2, x.fog(0, 0, 10, what));
        }
        Check.due("fog 632", 0, x.fog(632, 632, 99, 0));
    }

    /** Where a boat is in a minute if nothing stops it: as on a ring of 126 places that is folded. */
    private static int placeOf(int boat, int minute) {
        int cell = boat / 10, goes = boat % 10 - 1;
        int ring = goes < 0 ? 126 - cell : cell;
        int place = goes == 0 ? cell : (ring + minute) % 126;
        return place > 63 ? 126 - place : place;
    }

    private static void fogAtRandom() {
        Random random = new Random(13);
        for (int run = 0; run < 3000; run++) {
            int one = 10 * random.nextInt(64) + random.nextInt(3);
            int other = 10 * random.nextInt(64) + random.nextInt(3);
            int k = 1 + random.nextInt(9), far = random.nextInt(10);
            int stopped = -1, least = 99, first = -1;
            boolean met = false;
            int wasOne = -1, wasOther = -1;
            for (int minute = 0; minute <= 60; minute++) {
                int a = placeOf(one, minute);
                int b = stopped >= 0 ? stopped : placeOf(other, minute);
                met |= a == b || a == wasOther && b == wasOne;
                if (Math.abs(a - b) < least) {
                    least = Math.abs(a - b);
                    first = minute;
                }
                if (minute > 0 && minute % k == 0 && Math.abs(a - b) <= far && stopped < 0) {
                    stopped = b;
                }
                wasOne = a;
                wasOther = b;
            }
            near(one, other, 10 * k + far, least, first, met ? 1 : 0);
        }
    }
}
