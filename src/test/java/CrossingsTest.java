/** Promises 1 to 6: a new object, crossing, set, rower, ill, told. */
final class CrossingsTest {
    public static void main(String[] args) {
        aNewObject();
        crossing();
        set();
        rower();
        ill();
        toldNumbers();
        toldPace();
        toldParts();
        toldMay();
        toldTurn();
        toldRefusals();
        Check.end();
    }

    private static void aNewObject() {
        StandingUp x = new StandingUp();
        int[] counts = {0, 0, 0, 0, 0, 1, 0, 0};
        for (int i = 0; i < counts.length; i++) {
            Check.due("new count " + i, counts[i], x.count(i));
        }
        Check.due("new tide", 0, x.set(0, 4));
        Check.due("new wash", 0, x.set(1, 5));
        Check.due("new back", -3, x.back());
        Check.due("new heads", -1000, x.set(20, 1));
        for (int s = 0; s < 4; s++) {
            Check.due("new sheet", -11, x.cell(s, 0, 0));
        }
        for (int p = 1; p < 10; p++) {
            Check.due("new path", 0, x.path(p, 0));
            Check.due("new foot", -1, x.foot(p));
        }
    }

    private static void crossing() {
        StandingUp x = new StandingUp();
        int[] badStrokes = {0, -1, 61, Integer.MIN_VALUE, Integer.MAX_VALUE};
        for (int strokes : badStrokes) {
            Check.due("crossing strokes", -2, x.crossing(strokes, 12));
        }
        int[] badLandings = {0, 11, 99, 100, 112, -1, -12, Integer.MIN_VALUE, Integer.MAX_VALUE};
        for (int landings : badLandings) {
            Check.due("crossing landings " + landings, -2, x.crossing(5, landings));
        }
        Check.due("none yet", 0, x.count(0));
        int[] strokes = {1, 60, 1, 60, 30, 31, 20};
        int[] landings = {1, 98, 10, 89, 90, 12, 12};
        for (int i = 0; i < 7; i++) {
            Check.due("crossing", i, x.crossing(strokes[i], landings[i]));
        }
        Check.due("crossing full", -4, x.crossing(5, 12));
        Check.due("crossing bad ahead of full", -2, x.crossing(0, 12));
        Check.due("seven", 7, x.count(0));
        Check.due("all open", 7, x.count(2));
    }

    private static void set() {
        StandingUp x = Check.withCrossings(2);
        for (int what = 0; what < 2; what++) {
            Check.due("water", 0, x.set(what, 9));
            Check.due("water too high", -1000, x.set(what, 10));
            Check.due("water too low", -1000, x.set(what, -1));
            Check.due("water was", 9, x.set(what, 3 + what));
            Check.due("water was", 3 + what, x.set(what, 0));
        }
        Check.due("tide is not wash", 0, x.set(0, 7));
        Check.due("wash is not tide", 0, x.set(1, 6));
        Check.due("open at first", 1, x.set(10, 0));
        Check.due("shut now", 0, x.set(10, 0));
        Check.due("the other one is open", 1, x.set(11, 1));
        Check.due("open again", 0, x.set(10, 1));
        Check.due("open was", 1, x.set(10, 1));
        Check.due("open 2", -1000, x.set(10, 2));
        Check.due("open -1", -1000, x.set(10, -1));
        Check.due("heads at first", 0, x.set(20, 999));
        Check.due("heads was", 999, x.set(20, 0));
        Check.due("heads 1000", -1000, x.set(20, 1000));
        Check.due("heads -1", -1000, x.set(20, -1));
        Check.due("heads of the other one", 0, x.set(21, 5));
        Check.due("heads stayed", 0, x.set(20, 3));
        int[] none = {-1, 2, 9, 12, 16, 17, 19, 22, 26, 27, 30, Integer.MAX_VALUE, Integer.MIN_VALUE};
        for (int what : none) {
            Check.due("set " + what, -1000, x.set(what, 0));
        }
        StandingUp full = Check.withCrossings(6);
        Check.due("seventh", 6, full.crossing(60, 89));
        Check.due("open 16", 1, full.set(16, 0));
        Check.due("heads 26", 0, full.set(26, 7));
        Check.due("heads 26 was", 7, full.set(26, 7));
        Check.due("set 17", -1000, full.set(17, 0));
        Check.due("set 27", -1000, full.set(27, 0));
    }

    private static void rower() {
        StandingUp x = Check.withCrossings(2);
        int[] badKinds = {-1, 6, Integer.MIN_VALUE, Integer.MAX_VALUE};
        for (int kind : badKinds) {
            Check.due("rower kind", -2, x.rower(kind, 2000, -1));
        }
        int[] badRests = {1399, 1390, 0, -1, 9100, 9101, 2002, 2009, Integer.MIN_VALUE, Integer.MAX_VALUE};
        for (int rest : badRests) {
            Check.due("rower rest " + rest, -2, x.rower(0, rest, -1));
        }
        int[] badFathers = {0, 1, -2, Integer.MIN_VALUE, Integer.MAX_VALUE};
        for (int father : badFathers) {
            Check.due("rower father", -2, x.rower(0, 2000, father));
        }
        Check.due("none came", 0, x.count(1));
        Check.due("youngest", 0, x.rower(0, 1400, -1));
        Check.due("oldest", 1, x.rower(5, 9091, 0));
        Check.due("its own father", -2, x.rower(0, 2000, 2));
        for (int i = 2; i < 14; i++) {
            Check.due("rower", i, x.rower(i % 6, 2000, i - 1));
        }
        Check.due("rower full", -4, x.rower(0, 2000, -1));
        Check.due("rower bad ahead of full", -2, x.rower(6, 2000, -1));
        Check.due("fourteen", 14, x.count(1));
        Check.due("no fifteenth is ill", -2, x.ill(14, 1));
        Check.due("no fifteenth is told of", -1000000, x.told(14, 9, 0));
        Check.due("no fifteenth is a father", -2, x.rower(0, 2000, 14));
        Check.due("no crossings", -2, new StandingUp().rower(0, 2000, -1));
    }

    private static void ill() {
        StandingUp x = Check.withCrossings(1);
        x.rower(0, 2000, -1);
        x.rower(0, 2000, -1);
        Check.due("ill", 0, x.ill(0, 1));
        Check.due("ill again", 1, x.ill(0, 1));
        Check.due("one is ill", 1, x.count(3));
        Check.due("ill 2", -2, x.ill(0, 2));
        Check.due("ill -1", -2, x.ill(0, -1));
        Check.due("ill of none", -2, x.ill(2, 0));
        Check.due("ill of -1", -2, x.ill(-1, 0));
        Check.due("ill of -1 and 2", -2, x.ill(-1, 2));
        Check.due("the other one is well", 0, x.ill(1, 0));
        Check.due("well", 1, x.ill(0, 0));
        Check.due("well again", 0, x.ill(0, 0));
    }

    /** An object with a rower of each kind, numbered as the kinds are. */
    private static StandingUp oneOfEach(int age, int number) {
        StandingUp x = Check.withCrossings(1);
        for (int kind = 0; kind < 6; kind++) {
            Check.due("rower", kind, x.rower(kind, 100 * age + 10 * number, kind - 1));
        }
        return x;
    }

    private static void toldNumbers() {
        StandingUp x = Check.withCrossings(3);
        x.rower(3, 4572, -1);
        x.rower(4, 9090, 0);
        int[] first = {3, 45, 7, 2, -1, 0, 0};
        int[] second = {4, 90, 9, 0, 0, 1, 0};
        x.ill(1, 1);
        for (int what = 0; what < 7; what++) {
            Check.due("told 0 " + what, first[what], x.told(0, 0, what));
            Check.due("told 1 " + what, second[what], x.told(1, 23, what));
        }
        StandingUp y = Check.withCrossings(1);
        y.rower(0, 2000, -1);
        y.rower(0, 2000, -1);
        y.rowed(0, 8);
        y.rowed(0, 8);
        Check.due("turns", 2, y.told(0, 0, 6));
        Check.due("turns", 2, y.told(1, 0, 6));
    }

    private static void toldPace() {
        for (int age = 14; age <= 90; age++) {
            int number = age % 10;
            StandingUp x = oneOfEach(age, number);
            int old = 10 - age / 20;
            int[] due = {10, 12, old, 12 + number, 7, old / 2 + 2};
            for (int kind = 0; kind < 6; kind++) {
                Check.due("pace of kind " + kind + " at " + age, due[kind], x.told(kind, 0, 7));
            }
        }
    }

    private static void toldParts() {
        StandingUp x = oneOfEach(30, 0);
        int[] due = {4, 3, 4, 6, 2, 5};
        for (int kind = 0; kind < 6; kind++) {
            Check.due("parts of kind " + kind, due[kind], x.told(kind, 0, 9));
        }
    }

    private static boolean mayRow(int kind, int hour, int age, int number, boolean ill) {
        boolean asRower = hour >= 6 && hour <= 21 && !ill;
        switch (kind) {
            case 0: return asRower;
            case 1: return asRower && age >= 16;
            case 2: return asRower && (hour % 2 == 0 || number >= 5);
            case 3: return asRower && age >= 16 || !ill && hour == number;
            case 4: return asRower || !ill && hour >= 22;
            default: return asRower && (hour % 2 == 0 || number >= 5) && hour <= 13;
        }
    }

    private static void toldMay() {
        int[] ages = {14, 15, 16, 40};
        int[] numbers = {0, 3, 4, 5, 7, 9};
        for (int age : ages) {
            for (int number : numbers) {
                StandingUp x = oneOfEach(age, number);
                for (int kind = 0; kind < 6; kind++) {
                    for (int hour = 0; hour < 24; hour++) {
                        Check.due("may " + kind + " at " + hour + " of " + age + ", " + number,
                                mayRow(kind, hour, age, number, false) ? 1 : 0, x.told(kind, hour, 8));
                    }
                    x.ill(kind, 1);
                    for (int hour = 0; hour < 24; hour++) {
                        Check.due("ill may " + kind, 0, x.told(kind, hour, 8));
                    }
                }
            }
        }
    }

    private static void toldTurn() {
        StandingUp x = Check.withCrossings(1);
        x.rower(0, 3300, -1);
        x.rower(0, 4400, -1);
        x.rowed(0, 8);
        Check.due("turn by the first rule", -1, x.told(0, 8, 10));
        Check.due("text", 1, Check.text(x, "load 1;price 1;turn age*1000+hour*10+turns+heads*7+tide*5000-wash;"));
        x.force(1);
        x.set(0, 2);
        x.set(1, 9);
        Check.due("turn", 33000 + 130 + 1 + 10000 - 9, x.told(0, 13, 10));
        Check.due("turn", 44000 + 0 + 1 + 10000 - 9, x.told(1, 0, 10));
    }

    private static void toldRefusals() {
        StandingUp x = oneOfEach(30, 5);
        int none = -1000000;
        Check.due("told -1", none, x.told(-1, 5, 0));
        Check.due("told 6", none, x.told(6, 5, 0));
        Check.due("told hour -1", none, x.told(0, -1, 0));
        Check.due("told hour 24", none, x.told(0, 24, 1));
        Check.due("told what -1", none, x.told(0, 5, -1));
        Check.due("told what 11", none, x.told(0, 5, 11));
        Check.due("told what far", none, x.told(0, 5, Integer.MAX_VALUE));
    }
}
