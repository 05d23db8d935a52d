import java.util.List;
import java.util.Random;

/** Runs of 512 calls at random on an object and on a plain model of the document: all answers are alike. */
final class ModelTest {
    private static final List<Model.Text> LIBRARY = List.of(
        new Model.Text("load heads+1;price age+5;turn age-10*turns;", -1, (h, t, w, a, o, n) -> h + 1,
            (h, t, w, a, o, n) -> a + 5, (h, t, w, a, o, n) -> a - 10 * n),
        new Model.Text("load age-40;price 3+heads;turn(hour<12)*age-turns;", -1, (h, t, w, a, o, n) -> a - 40,
            (h, t, w, a, o, n) -> 3 + h, (h, t, w, a, o, n) -> (o < 12 ? a : 0) - n),
        new Model.Text("load tide*wash - hour;price hour*tide-wash;turn -age*age*age*9999 ;", -1,
            (h, t, w, a, o, n) -> t * w - o, (h, t, w, a, o, n) -> o * t - w, (h, t, w, a, o, n) -> -a * a * a * 9999),
        new Model.Text("load not(heads and hour)*7;price 100;turn turns=0 or age<30;", -1,
            (h, t, w, a, o, n) -> (h != 0 && o != 0 ? 1 : 0) * 7 == 0 ? 1 : 0, (h, t, w, a, o, n) -> 100,
            (h, t, w, a, o, n) -> n == 0 || a < 30 ? 1 : 0),
        new Model.Text("load 5;price 2;turn heads+tide*100-wash;", -1, (h, t, w, a, o, n) -> 5, (h, t, w, a, o, n) -> 2,
            (h, t, w, a, o, n) -> h + t * 100 - w),
        new Model.Text("load 5;price 2;turn;", 19, null, null, null),
        new Model.Text("load 12345;price 2;turn 1;", 5, null, null, null),
        new Model.Text("load 1;price 2;turn 1", 21, null, null, null),
        new Model.Text("load 1;price 2;turn 1;1", 22, null, null, null),
        new Model.Text("", 0, null, null, null));

    private static final int FAR = Integer.MAX_VALUE, FAR_BELOW = Integer.MIN_VALUE;

    private static Random random;
    private static StandingUp x;
    private static Model m;
    private static int calls;

    public static void main(String[] args) {
        for (int run = 0; run < 400; run++) {
            random = new Random(1000 + run);
            x = new StandingUp();
            m = new Model(LIBRARY);
            calls = 0;
            // some runs begin with crossings and rowers, some with none
            for (int i = 0; i < run % 8; i++) {
                crossing();
                rower();
                crossing();
                rower();
            }
            // the longest of what follows is some thirty calls
            while (calls < 480) {
                tellSomething(random.nextInt(17));
                askSomething(random.nextInt(20));
            }
        }
        Check.end();
    }

    private static void due(String call, long want, long got) {
        calls++;
        Check.due("call " + calls + ", " + call, want, got);
    }

    // ---- numbers

    private static boolean oneOf(int n) {
        return random.nextInt(n) == 0;
    }

    /** A number of 0 .. many - 1, now and then one beside it, or far off. */
    private static int some(int many) {
        switch (random.nextInt(40)) {
            case 0: return -1;
            case 1: return many;
            case 2: return oneOf(2) ? FAR : FAR_BELOW;
            case 3: return random.nextInt();
            case 4: return many - 1;
            case 5: return 0;
            default: return random.nextInt(many);
        }
    }

    private static int someRower() {
        return some(Math.max(1, m.count(1)));
    }

    private static int someCrossing() {
        return some(Math.max(1, m.count(0)));
    }

    private static int someTwo() {
        return oneOf(8) ? some(400) : 20 * random.nextInt(Math.max(1, m.count(1))) + someRower() % 20;
    }

    /** Mostly of five landings, so that ways meet. */
    private static int someLandings() {
        return oneOf(4) ? some(100) : 10 * random.nextInt(5) + some(5);
    }

    private static int someRest() {
        int age = oneOf(3) ? 14 + some(77) : 14 + random.nextInt(6);
        return 100 * age + 10 * random.nextInt(10) + someCrossing() % 10;
    }

    // ---- calls that tell something

    private static void tellSomething(int which) {
        switch (which) {
            case 0: crossing(); break;
            case 1: rower(); break;
            case 2: setWater(); break;
            case 3: setOpen(); break;
            case 4: setHeads(); break;
            case 5: case 6: ill(); break;
            case 7: text(); break;
            case 8: force(); break;
            case 9: case 10: case 11: rowed(); break;
            case 12: case 13: path(); break;
            case 14: imageOrBack(); break;
            case 15: row(); break;
            default: copy(); break;
        }
    }

    private static void crossing() {
        int strokes = 1 + some(60), landings = someLandings();
        due("crossing", m.crossing(strokes, landings), x.crossing(strokes, landings));
    }

    private static void rower() {
        int kind = some(6), rest = someRest(), father = some(m.count(1) + 1) - 1;
        due("rower", m.rower(kind, rest, father), x.rower(kind, rest, father));
    }

    private static void set(int what, int v) {
        due("set", m.set(what, v), x.set(what, v));
    }

    private static void setWater() {
        set(some(2), some(10));
    }

    private static void setOpen() {
        set(10 + someCrossing(), some(2));
    }

    private static void setHeads() {
        set(20 + someCrossing(), oneOf(2) ? some(1000) : some(3));
    }

    private static void ill() {
        int rower = someRower(), is = oneOf(3) ? some(2) : 0;
        due("ill", m.ill(rower, is), x.ill(rower, is));
    }

    /** A text that is known, on a tape that is empty; or there is no room for it, and the tape goes on. */
    private static void text() {
        String text = LIBRARY.get(random.nextInt(LIBRARY.size())).bytes();
        int i = 0;
        while (i < text.length()) {
            int n = Math.min(text.length() - i, 1 + random.nextInt(8));
            long bytes = random.nextLong();
            for (int k = n - 1; k >= 0; k--) {
                bytes = bytes << 8 | text.charAt(i + k);
            }
            due("feed", m.feed(n, bytes), x.feed(n, bytes));
            i += n;
        }
        int refused = oneOf(2) ? 0 : 9 + random.nextInt(3);
        due("feed", m.feed(refused, 0), x.feed(refused, 0));
        due("text", m.text(), x.text());
    }

    private static void force() {
        int text = oneOf(4) ? some(6) : some(m.count(5));
        due("force", m.force(text), x.force(text));
    }

    private static void rowed() {
        int crossing = someCrossing(), hour = oneOf(4) ? some(24) : 6 + random.nextInt(8);
        due("rowed", m.rowed(crossing, hour), x.rowed(crossing, hour));
    }

    private static void path() {
        int landings = someLandings(), minutes = oneOf(2) ? some(100) : some(9);
        due("path", m.path(landings, minutes), x.path(landings, minutes));
    }

    private static void imageOrBack() {
        if (oneOf(3)) {
            due("image", m.image(), x.image());
        } else if (oneOf(2)) {
            due("back", m.back(), x.back());
        }
    }

    private static void sheet(int sheet, int sort, int n) {
        due("sheet", m.sheet(sheet, sort, n), x.sheet(sheet, sort, n));
    }

    private static void cell(int sheet, int i, int v) {
        due("cell", m.cell(sheet, i, v), x.cell(sheet, i, v));
    }

    private static void row() {
        int sheet = some(4), sort = some(4) - 1, n = oneOf(2) ? some(41) : some(9);
        sheet(sheet, sort, n);
        for (int k = 0; k < 4; k++) {
            cell(oneOf(4) ? some(4) : sheet, some(9), oneOf(4) ? random.nextInt() : some(21));
        }
    }

    private static void copy() {
        int from = some(4), to = oneOf(2) ? from : some(4), i = some(6), j = some(6), n = some(4);
        due("copy", m.copy(from, i, to, j, n), x.copy(from, i, to, j, n));
    }

    // ---- calls that ask something

    private static void askSomething(int which) {
        switch (which) {
            case 0: case 1: told(); break;
            case 2: load(); break;
            case 3: takes(); break;
            case 4: turn(); break;
            case 5: heir(); break;
            case 6: open(); break;
            case 7: foot(); break;
            case 8: lost(); break;
            case 9: fog(); break;
            case 10: box(); break;
            case 11: shares(); break;
            case 12: bridge(); break;
            case 13: count(); break;
            case 14: taken(); break;
            case 15: rowers(); break;
            case 16: rowOfRowers(); break;
            case 17: waits(); break;
            case 18: rowOfWaits(); break;
            default: rowOfTurns(); break;
        }
    }

    private static void told() {
        int rower = someRower(), hour = some(24), what = some(11);
        due("told", m.told(rower, hour, what), x.told(rower, hour, what));
    }

    private static void load() {
        int heads = oneOf(2) ? some(1000) : some(16), two = oneOf(4) ? -1 : someTwo(), hour = some(24);
        due("load", m.load(heads, two, hour), x.load(heads, two, hour));
    }

    private static void takes() {
        int crossing = someCrossing(), two = someTwo();
        due("takes", m.takes(crossing, two), x.takes(crossing, two));
    }

    private static void turn() {
        int crossing = someCrossing(), hour = some(24);
        due("turn", m.turn(crossing, hour), x.turn(crossing, hour));
    }

    private static void heir() {
        int rower = someRower(), rule = 1 + some(3);
        due("heir", m.heir(rower, rule), x.heir(rower, rule));
    }

    private static void open() {
        int rowers = oneOf(2) ? some(43) : some(12), what = some(3);
        due("open", m.open(rowers, what), x.open(rowers, what));
    }

    private static void foot() {
        int landings = someLandings();
        due("foot", m.foot(landings), x.foot(landings));
    }

    private static void lost() {
        int crossing = someCrossing();
        due("lost", m.lost(crossing), x.lost(crossing));
    }

    private static void fog() {
        int one = 10 * random.nextInt(64) + some(3), other = 10 * random.nextInt(64) + some(3);
        int bell = 10 + some(90), what = some(3);
        due("fog", m.fog(one, other, bell, what), x.fog(one, other, bell, what));
    }

    private static void box() {
        int all = random.nextInt(oneOf(2) ? 12 : 199);
        int heads = 1000 * all + Math.max(0, all + random.nextInt(5) - 2);
        int off = some(10), coins = oneOf(4) ? some(100000) : random.nextInt(10 * all + 1), hour = some(24);
        due("box", m.box(heads, off, coins, hour), x.box(heads, off, coins, hour));
    }

    private static void shares() {
        int rower = oneOf(3) ? -1 : someRower(), coins = oneOf(2) ? some(100000) : some(50);
        int crossing = rower < 0 || oneOf(3) ? someCrossing() : m.told(rower, 0, 3);
        due("shares", m.shares(crossing, coins, rower), x.shares(crossing, coins, rower));
    }

    private static void bridge() {
        int crossing = someCrossing(), hundredths = some(101);
        due("bridge", m.bridge(crossing, hundredths), x.bridge(crossing, hundredths));
    }

    private static void count() {
        int what = some(8);
        due("count", m.count(what), x.count(what));
    }

    private static void taken() {
        int rower = someRower(), kind = some(6);
        due("taken", m.taken(rower, kind), x.taken(rower, kind));
    }

    private static void rowers() {
        int sheet = some(4), sort = some(3), from = some(9), n = some(4);
        due("rowers", m.rowers(sheet, sort, from, n), x.rowers(sheet, sort, from, n));
    }

    private static void rowOfRowers() {
        int sheet = random.nextInt(4), sort = random.nextInt(3), n = random.nextInt(4);
        sheet(sheet, sort, 3 * n);
        for (int i = 0; i < 3 * n; i++) {
            cell(sheet, i, i % 3 == 0 ? some(6) : i % 3 == 1 ? someRest() : some(5) - 1);
        }
        int many = oneOf(3) ? n + 1 : n;
        // seldom, so that a run isn't full of rowers at once
        if (oneOf(4)) {
            due("rowers", m.rowers(sheet, sort, 0, many), x.rowers(sheet, sort, 0, many));
        }
    }

    private static void waits() {
        int sheet = some(4), t = 1 + some(9), atOnce = 1 + some(14), what = some(2);
        due("waits", m.waits(sheet, t, atOnce, what), x.waits(sheet, t, atOnce, what));
    }

    private static void rowOfWaits() {
        int sheet = random.nextInt(4), n = 1 + random.nextInt(24), most = 1 + random.nextInt(21);
        sheet(sheet, random.nextInt(3), n);
        for (int i = 0; i < n; i++) {
            cell(sheet, i, oneOf(200) ? some(21) : oneOf(2) ? 0 : random.nextInt(most));
        }
        for (int k = 0; k < 3; k++) {
            int t = 1 + some(9), atOnce = 1 + some(14);
            due("least", m.waits(sheet, t, atOnce, 0), x.waits(sheet, t, atOnce, 0));
            due("minutes", m.waits(sheet, t, atOnce, 1), x.waits(sheet, t, atOnce, 1));
        }
    }

    /** A row that is right hour by hour, mostly; it is judged as far as it has come. */
    private static void rowOfTurns() {
        int sheet = random.nextInt(4), crossing = someCrossing(), n = 1 + random.nextInt(5);
        sheet(sheet, oneOf(4) ? 0 : 2, n);
        for (int i = 0; i < n; i++) {
            due("judge", m.judge(crossing, sheet), x.judge(crossing, sheet));
            cell(sheet, i, oneOf(20) ? someTwo() : rightTurn(crossing, sheet, i));
        }
        due("judge", m.judge(crossing, sheet), x.judge(crossing, sheet));
    }

    /** The turn that the model holds for right at a place of a row. */
    private static int rightTurn(int crossing, int sheet, int i) {
        for (int v = -1; v < 280; v++) {
            m.cell(sheet, i, v);
            int hour = m.judge(crossing, sheet);
            if (hour == -1 || hour > 6 + i) {
                return v;
            }
        }
        return 0;
    }
}
