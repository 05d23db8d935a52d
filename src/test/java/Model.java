import java.util.ArrayList;
import java.util.Arrays;
import java.util.HashMap;
import java.util.List;
import java.util.Map;

/**
 * The document once more, in its plainest form, to be held against the program. It knows the texts that ModelTest
 * feeds, each with what its three parts come to; it does not read them.
 */
final class Model {
    /** A part of a text, of heads, tide, wash, age, hour, turns. */
    interface Part {
        int of(int heads, int tide, int wash, int age, int hour, int turns);
    }

    /** A text, its fault (NONE: it has none), and its parts. */
    record Text(String bytes, int fault, Part load, Part price, Part turn) {
    }

    /** All that an image keeps, and more. */
    static final class State {
        int tide, wash, rule;
        List<Integer> open = new ArrayList<>(), heads = new ArrayList<>();
        List<Integer> ill = new ArrayList<>(), turns = new ArrayList<>();
        int[][] paths = new int[10][10];

        State copy() {
            State s = new State();
            s.tide = tide;
            s.wash = wash;
            s.rule = rule;
            s.open.addAll(open);
            s.heads.addAll(heads);
            s.ill.addAll(ill);
            s.turns.addAll(turns);
            for (int i = 0; i < 10; i++) {
                s.paths[i] = paths[i].clone();
            }
            return s;
        }
    }

    private static final Text FIRST = new Text("", -1, (h, t, w, a, o, n) -> 14 - t, (h, t, w, a, o, n) -> 10 - h * 8,
            (h, t, w, a, o, n) -> -n);

    private final Map<String, Text> known = new HashMap<>();
    private State now = new State();
    private State kept;
    private final List<int[]> crossings = new ArrayList<>();
    // kind, age, number, crossing, father
    private final List<int[]> crew = new ArrayList<>();
    private final List<Text> texts = new ArrayList<>(List.of(FIRST));
    private String tape = "";
    private final int[][] rows = new int[4][];
    private final int[] sorts = new int[4];

    Model(List<Text> library) {
        for (Text text : library) {
            known.put(text.bytes, text);
        }
    }

    private static boolean in(long v, int least, int most) {
        return v >= least && v <= most;
    }

    private boolean isCrossing(int c) {
        return in(c, 0, crossings.size() - 1);
    }

    private boolean isRower(int r) {
        return in(r, 0, crew.size() - 1);
    }

    int crossing(int strokes, int landings) {
        if (!in(strokes, 1, 60) || !in(landings, 0, 99) || landings / 10 == landings % 10) {
            return -2;
        }
        if (crossings.size() == 7) {
            return -4;
        }
        crossings.add(new int[] {strokes, landings / 10, landings % 10});
        now.open.add(1);
        now.heads.add(0);
        return crossings.size() - 1;
    }

    int set(int what, int v) {
        int was = -1000;
        if (what == 0 && in(v, 0, 9)) {
            was = now.tide;
            now.tide = v;
        } else if (what == 1 && in(v, 0, 9)) {
            was = now.wash;
            now.wash = v;
        } else if (in(what, 10, 16) && isCrossing(what - 10) && in(v, 0, 1)) {
            was = now.open.set(what - 10, v);
        } else if (in(what, 20, 26) && isCrossing(what - 20) && in(v, 0, 999)) {
            was = now.heads.set(what - 20, v);
        }
        return was;
    }

    int rower(int kind, int rest, int father) {
        if (!in(kind, 0, 5) || rest < 0 || !in(rest / 100, 14, 90) || !isCrossing(rest % 10)
                || father != -1 && !isRower(father)) {
            return -2;
        }
        if (crew.size() == 14) {
            return -4;
        }
        crew.add(new int[] {kind, rest / 100, rest / 10 % 10, rest % 10, father});
        now.ill.add(0);
        now.turns.add(0);
        return crew.size() - 1;
    }

    int ill(int rower, int is) {
        return isRower(rower) && in(is, 0, 1) ? now.ill.set(rower, is) : -2;
    }

    private int pace(int r) {
        int age = crew.get(r)[1], number = crew.get(r)[2];
        return new int[] {10, 12, 10 - age / 20, 12 + number, 7, 2 + (10 - age / 20) / 2}[crew.get(r)[0]];
    }

    private boolean may(int r, int hour) {
        int kind = crew.get(r)[0], age = crew.get(r)[1], number = crew.get(r)[2];
        if (now.ill.get(r) == 1) {
            return false;
        }
        boolean day = hour >= 6 && hour < 22;
        boolean heir = day && age > 15;
        boolean old = day && (hour % 2 == 0 || number > 4);
        return new boolean[] {day, heir, old, heir || hour == number, day || hour >= 22, old && hour < 14}[kind];
    }

    private int parts(int r) {
        return new int[] {4, 3, 4, 6, 2, 5}[crew.get(r)[0]];
    }

    private int due(int r, int hour) {
        return texts.get(now.rule).turn.of(0, now.tide, now.wash, crew.get(r)[1], hour, now.turns.get(r));
    }

    int told(int r, int hour, int what) {
        if (!isRower(r) || !in(hour, 0, 23) || !in(what, 0, 10)) {
            return -1000000;
        }
        if (what < 5) {
            return crew.get(r)[what];
        }
        switch (what) {
            case 5: return now.ill.get(r);
            case 6: return now.turns.get(r);
            case 7: return pace(r);
            case 8: return may(r, hour) ? 1 : 0;
            case 9: return parts(r);
            default: return due(r, hour);
        }
    }

    int feed(int n, long bytes) {
        if (!in(n, 1, 8)) {
            return -2;
        }
        if (tape.length() + n > 160) {
            return -4;
        }
        for (int i = 0; i < n; i++) {
            tape += (char) (bytes >>> 8 * i & 255);
        }
        return tape.length();
    }

    int text() {
        if (texts.size() == 6) {
            return -4;
        }
        Text text = known.get(tape);
        tape = "";
        if (text.fault >= 0) {
            return -100 - text.fault;
        }
        texts.add(text);
        return texts.size() - 1;
    }

    int force(int text) {
        if (!in(text, 0, texts.size() - 1)) {
            return -2;
        }
        int was = now.rule;
        now.rule = text;
        return was;
    }

    private boolean areTwo(int two) {
        return two >= 0 && isRower(two / 20) && isRower(two % 20);
    }

    int load(int heads, int two, int hour) {
        if (!in(heads, 0, 999) || two != -1 && !areTwo(two) || !in(hour, 0, 23)) {
            return -2;
        }
        int age = two == -1 ? 0 : Math.max(crew.get(two / 20)[1], crew.get(two % 20)[1]);
        int most = texts.get(now.rule).load.of(heads, now.tide, now.wash, age, hour, 0);
        return most < 1 ? 1 : most > 14 ? 14 : most;
    }

    int takes(int c, int two) {
        if (!isCrossing(c) || !areTwo(two) || two / 20 == two % 20) {
            return -2;
        }
        int strokes = crossings.get(c)[0] + 2 * now.wash, minutes = 0;
        while (minutes * (pace(two / 20) + pace(two % 20)) < strokes) {
            minutes++;
        }
        return minutes;
    }

    int waits(int sheet, int t, int most, int what) {
        if (!in(sheet, 0, 3) || !in(t, 1, 9) || !in(most, 1, 14) || !in(what, 0, 1)) {
            return -2;
        }
        int[] row = rows[sheet];
        if (row == null) {
            return -11;
        }
        if (!in(row.length, 1, 24)) {
            return -2;
        }
        for (int v : row) {
            if (!in(v, 0, 20)) {
                return -2;
            }
        }
        long[] plan = plan(row, 2 * t, most, 0, 0, 0, new HashMap<>());
        return (int) plan[what];
    }

    /** The least waits from a minute on, and their bits; back: when the boat is there, waiting: from ahead of it. */
    private long[] plan(int[] row, int trip, int most, int minute, int back, int waiting, Map<Integer, long[]> done) {
        if (minute >= row.length && waiting == 0) {
            return new long[] {0, 0};
        }
        int key = (minute * 100 + Math.max(0, back - minute)) * 1000 + waiting;
        long[] best = done.get(key);
        if (best != null) {
            return best;
        }
        int here = waiting + (minute < row.length ? row[minute] : 0);
        boolean there = back <= minute;
        boolean must = there && here > 0 && minute >= row.length - 1;
        if (!must) {
            long[] then = plan(row, trip, most, minute + 1, back, here, done);
            best = new long[] {then[0] + here, then[1]};
        }
        if (there && here > 0) {
            int left = Math.max(0, here - most);
            long[] then = plan(row, trip, most, minute + 1, minute + trip, left, done);
            long bits = then[1] + (minute < row.length ? 1L << minute : 0);
            long waits = then[0] + left;
            if (best == null || waits < best[0] || waits == best[0] && bits < best[1]) {
                best = new long[] {waits, bits};
            }
        }
        done.put(key, best);
        return best;
    }

    int turn(int c, int hour) {
        if (!isCrossing(c) || !in(hour, 0, 23)) {
            return -2;
        }
        List<Integer> who = new ArrayList<>();
        for (int r = 0; r < crew.size(); r++) {
            if ((crew.get(r)[3] == c || crew.get(r)[0] == 4) && may(r, hour)) {
                who.add(r);
            }
        }
        // a sort that is stable: of like ones the least stays ahead
        who.sort((a, b) -> Integer.compare(due(b, hour), due(a, hour)));
        if (who.size() < 2) {
            return -1;
        }
        int one = who.get(0), other = who.get(1);
        return 20 * Math.min(one, other) + Math.max(one, other);
    }

    int rowed(int c, int hour) {
        int two = turn(c, hour);
        if (two >= 0) {
            now.turns.set(two / 20, now.turns.get(two / 20) + 1);
            now.turns.set(two % 20, now.turns.get(two % 20) + 1);
        }
        return two;
    }

    int judge(int c, int sheet) {
        if (!isCrossing(c) || !in(sheet, 0, 3)) {
            return -2;
        }
        if (rows[sheet] == null) {
            return -11;
        }
        if (!in(rows[sheet].length, 1, 16)) {
            return -2;
        }
        State ahead = now.copy();
        int hour = -1;
        for (int i = 0; i < rows[sheet].length && hour == -1; i++) {
            if (rowed(c, 6 + i) != rows[sheet][i]) {
                hour = 6 + i;
            }
        }
        now = ahead;
        return hour;
    }

    int heir(int r, int rule) {
        if (!isRower(r) || !in(rule, 1, 3)) {
            return -2;
        }
        int best = -1;
        for (int i = 0; i < crew.size(); i++) {
            int[] one = crew.get(i);
            int ofFather = one[4] == -1 ? -1 : crew.get(one[4])[4];
            if (rule == 1 && one[4] == r && (one[0] == 1 || one[0] == 3) && (best == -1 || one[1] > crew.get(best)[1])) {
                best = i;
            }
            if (rule == 2 && (one[4] == r || ofFather == r) && now.ill.get(i) == 0 && best == -1) {
                best = i;
            }
            if (rule == 3 && i != r && one[3] == crew.get(r)[3]) {
                int more = best == -1 ? 1 : Integer.compare(now.turns.get(i), now.turns.get(best));
                if (more > 0 || more == 0 && one[1] > crew.get(best)[1]) {
                    best = i;
                }
            }
        }
        return best;
    }

    int open(int rowers, int what) {
        if (!in(rowers, 0, 42) || !in(what, 0, 2)) {
            return -2;
        }
        int[] best = null;
        for (int some = 0; some < 1 << crossings.size(); some++) {
            int heads = 0, needed = 0;
            for (int c = 0; c < crossings.size(); c++) {
                if ((some >> c & 1) == 1) {
                    heads += now.heads.get(c);
                    needed += crossings.get(c)[0] > 30 ? 3 : 2;
                }
            }
            int[] it = {some, heads, needed};
            if (needed <= rowers && (best == null || heads > best[1] || heads == best[1] && needed < best[2])) {
                best = it;
            }
        }
        return best[what];
    }

    int path(int landings, int minutes) {
        if (!in(landings, 0, 99) || landings / 10 == landings % 10 || !in(minutes, 0, 99)) {
            return -2;
        }
        int a = landings / 10, b = landings % 10;
        int was = now.paths[a][b];
        now.paths[a][b] = minutes;
        now.paths[b][a] = minutes;
        return was;
    }

    /** The least minutes from a landing to each, by going on from the nearest that is not yet left; -1: no way. */
    private int[] ways(int from) {
        int[] least = new int[10];
        boolean[] left = new boolean[10];
        Arrays.fill(least, -1);
        least[from] = 0;
        for (int round = 0; round < 10; round++) {
            int at = -1;
            for (int i = 0; i < 10; i++) {
                if (!left[i] && least[i] >= 0 && (at == -1 || least[i] < least[at])) {
                    at = i;
                }
            }
            if (at == -1) {
                break;
            }
            left[at] = true;
            for (int to = 0; to < 10; to++) {
                int step = now.paths[at][to];
                for (int c = 0; c < crossings.size(); c++) {
                    int a = crossings.get(c)[1], b = crossings.get(c)[2];
                    boolean over = now.open.get(c) == 1 && (a == at && b == to || b == at && a == to);
                    step = over && (step == 0 || step > 5) ? 5 : step;
                }
                if (step > 0 && (least[to] == -1 || least[at] + step < least[to])) {
                    least[to] = least[at] + step;
                }
            }
        }
        return least;
    }

    int foot(int landings) {
        return in(landings, 0, 99) ? ways(landings / 10)[landings % 10] : -2;
    }

    int lost(int c) {
        if (!isCrossing(c)) {
            return -2;
        }
        if (now.open.get(c) == 0) {
            return 0;
        }
        int sum = 0;
        for (int a = 0; a < 10; a++) {
            int[] ahead = ways(a);
            now.open.set(c, 0);
            int[] then = ways(a);
            now.open.set(c, 1);
            for (int b = a + 1; b < 10; b++) {
                if (ahead[b] >= 0) {
                    sum += then[b] >= 0 ? then[b] - ahead[b] : 100;
                }
            }
        }
        return sum;
    }

    int fog(int one, int other, int bell, int what) {
        if (!in(one, 0, 639) || one % 10 > 2 || !in(other, 0, 639) || other % 10 > 2 || !in(bell, 10, 99)
                || !in(what, 0, 2)) {
            return -2;
        }
        int[] a = new int[61], b = new int[61];
        a[0] = one / 10;
        b[0] = other / 10;
        int goesA = one % 10 - 1, goesB = other % 10 - 1, met = 0, nearest = 0;
        for (int m = 0; m <= 60; m++) {
            if (m > 0) {
                goesA = a[m - 1] + goesA < 0 ? 1 : a[m - 1] + goesA > 63 ? -1 : goesA;
                goesB = b[m - 1] + goesB < 0 ? 1 : b[m - 1] + goesB > 63 ? -1 : goesB;
                a[m] = a[m - 1] + goesA;
                b[m] = b[m - 1] + goesB;
                goesB = m % (bell / 10) == 0 && Math.abs(a[m] - b[m]) <= bell % 10 ? 0 : goesB;
                met = a[m] == b[m - 1] && b[m] == a[m - 1] ? 1 : met;
            }
            met = a[m] == b[m] ? 1 : met;
            nearest = Math.abs(a[m] - b[m]) < Math.abs(a[nearest] - b[nearest]) ? m : nearest;
        }
        return what == 0 ? Math.abs(a[nearest] - b[nearest]) : what == 1 ? nearest : met;
    }

    private int price(int heads, int hour) {
        int price = texts.get(now.rule).price.of(heads, now.tide, now.wash, 0, hour, 0);
        return price < 0 ? 0 : price > 99 ? 99 : price;
    }

    int box(int heads, int off, int coins, int hour) {
        if (heads < 0 || !in(heads / 1000, 0, 198) || !in(heads % 1000, 0, 198) || !in(off, 0, 9)
                || !in(coins, 0, 99999) || !in(hour, 0, 23)) {
            return -2;
        }
        int ways = 0;
        for (int l = 0; l < 100; l++) {
            for (int s = 0; s < 100; s++) {
                boolean right = Math.abs(l + s - heads / 1000) <= off && Math.abs(l + s - heads % 1000) <= off;
                ways += right && l * price(1, hour) + s * price(0, hour) == coins ? 1 : 0;
            }
        }
        return ways;
    }

    int shares(int c, int coins, int rower) {
        if (!isCrossing(c) || !in(coins, 0, 99999) || rower != -1 && (!isRower(rower) || crew.get(rower)[3] != c)) {
            return -2;
        }
        int all = 0, rest = coins;
        for (int r = 0; r < crew.size(); r++) {
            all += crew.get(r)[3] == c ? parts(r) : 0;
        }
        for (int r = 0; r < crew.size(); r++) {
            if (crew.get(r)[3] == c) {
                int share = coins * parts(r) / all;
                rest -= share;
                if (r == rower) {
                    return share;
                }
            }
        }
        return rest;
    }

    int bridge(int c, int hundredths) {
        return isCrossing(c) && in(hundredths, 0, 100) ? now.heads.get(c) * (100 - hundredths) / 100 : -2;
    }

    int image() {
        kept = now.copy();
        return crew.size();
    }

    int back() {
        if (kept == null) {
            return -3;
        }
        State then = kept.copy();
        for (int c = then.open.size(); c < crossings.size(); c++) {
            then.open.add(now.open.get(c));
            then.heads.add(now.heads.get(c));
        }
        for (int r = then.ill.size(); r < crew.size(); r++) {
            then.ill.add(now.ill.get(r));
            then.turns.add(now.turns.get(r));
        }
        now = then;
        return crew.size();
    }

    private static int sum(List<Integer> all) {
        int sum = 0;
        for (int one : all) {
            sum += one;
        }
        return sum;
    }

    int count(int what) {
        if (!in(what, 0, 7)) {
            return -2;
        }
        return new int[] {crossings.size(), crew.size(), sum(now.open), sum(now.ill), sum(now.turns), texts.size(),
            tape.length(), now.rule}[what];
    }

    int sheet(int sheet, int sort, int n) {
        if (!in(sheet, 0, 3) || !in(sort, -1, 2) || sort >= 0 && n > 40) {
            return -2;
        }
        if (sort >= 0 && n < 0) {
            return -14;
        }
        rows[sheet] = sort < 0 ? null : new int[n];
        sorts[sheet] = sort;
        return 1;
    }

    int cell(int sheet, int i, int v) {
        if (!in(sheet, 0, 3)) {
            return -2;
        }
        if (rows[sheet] == null) {
            return -11;
        }
        if (!in(i, 0, rows[sheet].length - 1)) {
            return -12;
        }
        rows[sheet][i] = sorts[sheet] == 0 ? (byte) v : sorts[sheet] == 1 ? (short) v : v;
        return 1;
    }

    int copy(int sheet, int i, int other, int j, int n) {
        if (!in(sheet, 0, 3) || !in(other, 0, 3)) {
            return -2;
        }
        if (rows[sheet] == null || rows[other] == null) {
            return -11;
        }
        if (sorts[sheet] != sorts[other]) {
            return -13;
        }
        if (i < 0 || j < 0 || n < 0 || (long) i + n > rows[sheet].length || (long) j + n > rows[other].length) {
            return -12;
        }
        int[] were = rows[sheet].clone();
        for (int k = 0; k < n; k++) {
            rows[other][j + k] = were[i + k];
        }
        return n;
    }

    int rowers(int sheet, int sort, int from, int n) {
        if (!in(sheet, 0, 3) || !in(sort, 0, 2) || !in(n, 0, 12)) {
            return -2;
        }
        if (rows[sheet] == null) {
            return -11;
        }
        if (sorts[sheet] != sort) {
            return -13;
        }
        int came = 0;
        for (int k = 0; k < n; k++) {
            long at = (long) from + 3 * k;
            if (at < 0 || at + 2 >= rows[sheet].length) {
                return -12;
            }
            int[] row = rows[sheet];
            came += rower(row[(int) at], row[(int) at + 1], row[(int) at + 2]) >= 0 ? 1 : 0;
        }
        return came;
    }

    int taken(int r, int k) {
        if (!in(k, 0, 5)) {
            return -2;
        }
        if (!isRower(r)) {
            return -11;
        }
        int[] above = {-1, 0, 0, 1, 0, 2};
        for (int kind = crew.get(r)[0]; kind != -1; kind = above[kind]) {
            if (kind == k) {
                return crew.get(r)[2];
            }
        }
        return -13;
    }
}
