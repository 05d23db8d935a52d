import java.util.Random;

/** Promises 7 to 11: feed, text, force, load, takes. */
final class TextsTest {
    private static final String AHEAD = "load 1;price 1;turn ";

    public static void main(String[] args) {
        feed();
        text();
        textFull();
        textsApart();
        faults();
        faultsOfDepth();
        faultsAtEveryEnd();
        values();
        randomValues();
        force();
        load();
        takes();
        Check.end();
    }

    private static void feed() {
        StandingUp x = new StandingUp();
        int[] bad = {0, 9, -1, Integer.MAX_VALUE, Integer.MIN_VALUE};
        for (int n : bad) {
            Check.due("feed " + n, -2, x.feed(n, 0));
        }
        for (int i = 1; i <= 19; i++) {
            Check.due("feed 8", 8 * i, x.feed(8, 0x2020202020202020L));
        }
        Check.due("feed 7", 159, x.feed(7, 0x2020202020202020L));
        Check.due("feed 2 of 161", -4, x.feed(2, 0));
        Check.due("bad ahead of full", -2, x.feed(9, 0));
        Check.due("feed the last", 160, x.feed(1, 0x7878787878787820L));
        Check.due("feed full", -4, x.feed(1, 0));
        Check.due("tape stays", 160, x.count(6));
        Check.due("blanks alone", -260, x.text());
        Check.due("tape is empty", 0, x.count(6));
        // only the lowest bytes, the lowest first
        Check.due("feed lo", 2, x.feed(2, 0x7A7A7A7A7A7A6F6CL));
        Check.due("feed ad", 4, x.feed(2, 0x6461L));
        Check.due("feed 1", 7, x.feed(3, 0x3B3120L));
        Check.due("fault at the end", -107, x.text());
        Check.due("feed high bits", 1, x.feed(1, -1L));
        Check.due("fault at once", -100, x.text());
    }

    private static void text() {
        StandingUp x = new StandingUp();
        Check.due("no bytes", -100, x.text());
        Check.due("plain", 1, Check.text(x, "load 1;price 2;turn 3;"));
        Check.due("blanks", 2, Check.text(x, " \n load \n1 ; price(2);turn-3 ;\n "));
        Check.due("three texts", 3, x.count(5));
        Check.due("a fault", -105, Check.text(x, "load ;"));
        Check.due("empties the tape", 0, x.count(6));
        Check.due("makes no text", 3, x.count(5));
        Check.due("none is forced", 0, x.count(7));
        Check.due("tokens stand close", 3, Check.text(x, "load heads*2and not tide<1or wash=7;price 1;turn 0-turns;"));
    }

    private static void textFull() {
        StandingUp x = new StandingUp();
        for (int i = 1; i < 6; i++) {
            Check.due("text", i, Check.text(x, "load " + i + ";price 1;turn 1;"));
        }
        Check.due("six", 6, x.count(5));
        Check.due("text full, of none", -4, x.text());
        Check.due("text full, of a fault", -4, Check.text(x, "load ("));
        Check.due("the tape stays", 6, x.count(6));
        for (int i = 0; i < 6; i++) {
            x.force(i);
            Check.due("load of " + i, i == 0 ? 14 : i, x.load(9, -1, 9));
        }
    }

    /** A text owes nothing to what was on the tape, or was read, ahead of it. */
    private static void textsApart() {
        String ones = "1" + "+1".repeat(55);
        StandingUp x = Check.withCrossings(1);
        x.rower(0, 3300, -1);
        for (int i = 0; i < 5; i++) {
            Check.due("a long fault", -100 - 131, Check.text(x, AHEAD + ones));
            Check.due("a long text", 1 + i, Check.text(x, AHEAD + ones + "+" + i + ";"));
        }
        for (int i = 0; i < 5; i++) {
            x.force(1 + i);
            Check.due("a long turn", 56 + i, x.told(0, 8, 10));
        }
        StandingUp y = new StandingUp();
        Check.due("three digits", -108, Check.text(y, "load 123"));
        Check.due("two of them", -107, Check.text(y, "load 12"));
        Check.due("a word", -110, Check.text(y, "load turns"));
        Check.due("less of it", -105, Check.text(y, "load turn"));
    }

    private static void fault(String text, int place) {
        Check.due("text " + text, -100 - place, Check.text(new StandingUp(), text));
    }

    private static void right(String text) {
        Check.due("text " + text, 1, Check.text(new StandingUp(), text));
    }

    private static void faults() {
        fault("price 1;turn 1;load 1;", 0);
        fault("load 1;load 1;turn 1;", 7);
        fault("load 1;price 1;price 1;", 15);
        fault("load 1;price 1;turn 1;;", 22);
        fault("load 1;price 1;turn 1; load 1;", 23);
        fault("load 1 2;", 7);
        fault("load 1+;", 7);
        fault("load *1;", 5);
        fault("load +1;", 5);
        fault("load ();", 6);
        fault("load (1;", 7);
        fault("load 1);", 6);
        fault("load 1<2<3;", 8);
        fault("load 1=2=3;", 8);
        fault("load 1<2=3;", 8);
        fault("load 1<not 2;", 7);
        fault("load 1+not 2;", 7);
        fault("load -not 2;", 6);
        fault("load 1 not 2;", 7);
        fault("load not;", 8);
        fault("load or 1;", 5);
        fault("load 1 or or 1;", 10);
        fault("load 1 and or 1;", 11);
        fault("load 1 and;", 10);
        fault("load load;", 5);
        fault("load turn;", 5);
        fault("load price;", 5);
        fault("load turns(1);", 10);
        fault("load 1\tand 1;", 6);
        fault("load 1 > 2;", 7);
        fault("load 1/2;", 6);
        fault("Load 1;", 0);
        fault("load Tide;", 5);
        fault("load " + (char) 233 + ";", 5);
        fault("load 1" + (char) 160 + ";", 6);
        fault("load 1" + (char) 0 + ";", 6);
        fault("load not x 1;", 9);
        fault("load -x 1;", 6);
        fault("load (x 1);", 6);
        // nothing stands behind a text
        String[] behind = {"?", "x", "5", "12345", "tide", "not", "load", ";", ")", "-"};
        for (String token : behind) {
            fault("load 1;price 1;turn 1;" + token, 22);
            fault("load 1;price 1;turn 1; \n" + token + " ;", 24);
        }
        // words and numbers are as long as can be
        fault("load1;", 4 + 2);
        fault("loadtide;", 0);
        fault("loa 1;", 0);
        fault("loadz 1;", 0);
        fault("xoad 1;", 0);
        fault("load xash;", 5);
        fault("load zide;", 5);
        fault("loads 1;", 0);
        fault("load tides;", 5);
        fault("load tid;", 5);
        fault("load headsx;", 5);
        fault("load headstide;", 5);
        fault("load o;", 5);
        fault("load 1 nott 2;", 7);
        fault("load 12345;", 5);
        fault("load 00001;", 5);
        fault("load 1+123456789012345678901234567890;", 7);
        fault("load 1 12345;", 7);
        right("load 9999;price 0000;turn 0123;");
        // the first one of two
        fault("load 1;price 12345;turn (", 13);
        fault("load 1;price ? 12345;", 13);
    }

    private static void faultsOfDepth() {
        right(AHEAD + "(((((1)))));");
        fault(AHEAD + "((((((1))))));", 25);
        right(AHEAD + "-----1;");
        fault(AHEAD + "------1;", 25);
        right(AHEAD + "not not not not not 1;");
        fault(AHEAD + "not not not not not not 1;", 40);
        right(AHEAD + "not(not(-1));");
        fault(AHEAD + "not(not(-(1)));", 29);
        fault(AHEAD + "not(not(--1));", 29);
        fault(AHEAD + "not(not(-not 1));", 29);
        fault(AHEAD + "not(not((not 1)));", 29);
        // what ends is no longer open
        right(AHEAD + "(1)+(1)+(1)+(1)+(1)+(1)+(((((1)))));");
        right(AHEAD + "-1-1--1-1--1*-1+-----1;");
        right(AHEAD + "not 1 and not 1 or not 1 and not 1 or not 1 and not not not not not 1;");
        right(AHEAD + "not -1<-1 and ((-(-1)));");
        right(AHEAD + "not not not not 1<-1;");
        right(AHEAD + "not not not not -1<-1+-1*-1;");
        fault(AHEAD + "not not not not -1<-1+-(1);", 43);
        right(AHEAD + "((((1-1-1-1-1-1-1))));");
        fault(AHEAD + "((((-(1)))));", 25);
        right(AHEAD + "((((1)+-(1))));");
        fault(AHEAD + "(((((1)+-(1)))));", 29);
    }

    /** Each beginning of a right text ends too early: the fault is its size. */
    private static void faultsAtEveryEnd() {
        String text = "load not(heads<-2)or tide*3 ;price(wash+age)=hour and turns ; turn(1-22);";
        StandingUp x = new StandingUp();
        int[] ends = {0, 4, 5, 8, 9, 14, 15, 16, 17, 18, 20, 21, 25, 26, 27, 28, 29, 34, 35, 39, 40, 44, 45, 49, 50, 53,
            60, 61, 62, 66, 67, 68, 69, 71, 72};
        for (int end : ends) {
            Check.due("begins " + text.substring(0, end), -100 - end, Check.text(x, text.substring(0, end)));
            Check.due("and a blank", -101 - end, Check.text(x, text.substring(0, end) + "\n"));
        }
        Check.due("whole", 1, Check.text(x, text));
    }

    /** What an expression comes to, as the turn of a rower of 33 at hour 7, tide 2, wash 3. */
    private static long valueOf(String expression) {
        StandingUp x = Check.withCrossings(1);
        x.rower(0, 3300, -1);
        x.set(0, 2);
        x.set(1, 3);
        int text = Check.text(x, AHEAD + expression + ";");
        Check.due("reads " + expression, 1, text);
        x.force(text);
        return x.told(0, 7, 10);
    }

    private static void value(String expression, int want) {
        Check.due("value of " + expression, want, valueOf(expression));
    }

    private static void values() {
        value("1+2*3", 7);
        value("(1+2)*3", 9);
        value("10-3-2", 5);
        value("10-(3-2)", 9);
        value("2*3*4", 24);
        value("0010", 10);
        value("9999*9999*9999", (int) (9999L * 9999 * 9999));
        value("0-9999*9999*9999", -(int) (9999L * 9999 * 9999));
        value("--5", 5);
        value("-5", -5);
        value("-2*3", -6);
        value("2*-3", -6);
        value("-2-3", -5);
        value("1--1", 2);
        value("3<4", 1);
        value("4<4", 0);
        value("-5<4", 1);
        value("5<4", 0);
        value("4=4", 1);
        value("4=5", 0);
        value("1+1=2", 1);
        value("1+1<2*2", 1);
        value("5 or 0", 1);
        value("0 or 0", 0);
        value("0 or 7", 1);
        value("5 and 6", 1);
        value("5 and 0", 0);
        value("0 and 5", 0);
        value("-1 and -1", 1);
        value("not 5", 0);
        value("not 0", 1);
        value("not not 5", 1);
        value("not 1=2", 1);
        value("not 0 and 0", 0);
        value("not (0 and 0)", 1);
        value("1 or 1 and 0", 1);
        value("(1 or 1)and 0", 0);
        value("0 or 0 or 3", 1);
        value("2 and 3 and 4", 1);
        value("7", 7);
        value("(7)", 7);
        value("tide", 2);
        value("wash", 3);
        value("age", 33);
        value("hour", 7);
        value("turns", 0);
        value("heads", 0);
        value("tide-wash", -1);
        value("1+(2+(3+(4+(5+(6*7+8)))))", 65);
        value("1 or 2<1+2*(1 and 2<1+2*(1 or 2=1+2*(1 and 2<1+2*(1 or 2<1+2*(1 or 2<1+2*3)))))", 1);
    }

    private static int budget;

    /** A random expression of a level (0 or, 1 and, 2 not, 3 sum, 4 term, 5 one) into s; what it comes to. */
    private static int expression(Random random, StringBuilder s, int level, int open) {
        budget--;
        if (level == 5) {
            return one(random, s, open);
        }
        if (level == 2) {
            if (open < 5 && budget > 0 && random.nextInt(6) == 0) {
                s.append("not ");
                return expression(random, s, 2, open + 1) == 0 ? 1 : 0;
            }
            int left = expression(random, s, 3, open);
            if (budget <= 0 || random.nextInt(3) != 0) {
                return left;
            }
            boolean less = random.nextBoolean();
            s.append(less ? " < " : "=");
            int right = expression(random, s, 3, open);
            return (less ? left < right : left == right) ? 1 : 0;
        }
        int all = expression(random, s, level + 1, open);
        while (budget > 0 && random.nextInt(4) == 0) {
            if (level == 3) {
                boolean plus = random.nextBoolean();
                s.append(plus ? "+" : " - ");
                int more = expression(random, s, 4, open);
                all = plus ? all + more : all - more;
            } else if (level == 4) {
                s.append("*");
                all *= expression(random, s, 5, open);
            } else {
                s.append(level == 0 ? " or " : " and ");
                int more = expression(random, s, level + 1, open);
                all = (level == 0 ? all != 0 || more != 0 : all != 0 && more != 0) ? 1 : 0;
            }
        }
        return all;
    }

    private static int one(Random random, StringBuilder s, int open) {
        int sort = open < 5 && budget > 0 ? random.nextInt(6) : random.nextInt(4);
        String[] names = {"tide", "wash", "age", "hour", "turns", "heads"};
        int[] due = {2, 3, 33, 7, 0, 0};
        if (sort < 2) {
            int number = random.nextInt(4) == 0 ? random.nextInt(10000) : random.nextInt(4);
            s.append(number);
            return number;
        }
        if (sort < 4) {
            int name = random.nextInt(6);
            s.append(names[name]);
            return due[name];
        }
        if (sort == 4) {
            s.append("-");
            return -expression(random, s, 5, open + 1);
        }
        s.append("(");
        int inner = expression(random, s, 0, open + 1);
        s.append(")");
        return inner;
    }

    private static void randomValues() {
        Random random = new Random(7);
        for (int i = 0; i < 3000; i++) {
            StringBuilder s = new StringBuilder();
            budget = 8 + i % 60;
            int want = expression(random, s, 0, 0);
            if (s.length() <= 139) {
                value(s.toString(), want);
            }
        }
    }

    private static void force() {
        StandingUp x = new StandingUp();
        Check.due("force no text", -2, x.force(1));
        Check.due("force -1", -2, x.force(-1));
        Check.due("force 0", 0, x.force(0));
        Check.due("text", 1, Check.text(x, "load 3;price 4;turn 5;"));
        Check.due("load ahead", 14, x.load(0, -1, 0));
        Check.due("force 1", 0, x.force(1));
        Check.due("the rule", 1, x.count(7));
        Check.due("load behind", 3, x.load(0, -1, 0));
        Check.due("price behind", 2, x.box(1001, 0, 4, 0));
        Check.due("force 2", -2, x.force(2));
        Check.due("force 6", -2, x.force(6));
        Check.due("force far", -2, x.force(Integer.MAX_VALUE));
        Check.due("force 0 again", 1, x.force(0));
        Check.due("load of the first", 14, x.load(0, -1, 0));
    }

    private static void load() {
        StandingUp x = Check.withCrossings(1);
        Check.due("load of nobody", -2, x.load(5, 0, 9));
        x.rower(0, 3000, -1);
        x.rower(0, 2000, -1);
        x.rower(0, 5000, -1);
        int[] badHeads = {-1, 1000, Integer.MIN_VALUE};
        for (int heads : badHeads) {
            Check.due("load heads", -2, x.load(heads, -1, 0));
        }
        int[] badRowers = {-2, -20, 3, 19, 22 + 1, 60, 99, Integer.MIN_VALUE, Integer.MAX_VALUE};
        for (int two : badRowers) {
            Check.due("load rowers " + two, -2, x.load(0, two, 0));
        }
        int[] badHours = {-1, 24, Integer.MAX_VALUE};
        for (int hour : badHours) {
            Check.due("load hour", -2, x.load(0, -1, hour));
        }
        for (int tide = 0; tide < 10; tide++) {
            x.set(0, tide);
            Check.due("load at tide " + tide, 14 - tide, x.load(999, 1, 23));
        }
        x.set(0, 0);
        x.force(Check.text(x, "load heads;price 1;turn 1;"));
        Check.due("load 0", 1, x.load(0, -1, 0));
        Check.due("load 1", 1, x.load(1, -1, 0));
        Check.due("load 2", 2, x.load(2, -1, 0));
        Check.due("load 14", 14, x.load(14, -1, 0));
        Check.due("load 15", 14, x.load(15, -1, 0));
        x.force(Check.text(x, "load -9999;price 1;turn 1;"));
        Check.due("load far below", 1, x.load(0, -1, 0));
        x.force(Check.text(x, "load(age=30)*3+(age=50)*5+(age=0)*7+(age=20)*9+turns*3;price 1;turn 1;"));
        Check.due("load of nobody asked", 7, x.load(0, -1, 0));
        Check.due("load of 0 and 1", 3, x.load(0, 1, 0));
        Check.due("load of 1 and 0", 3, x.load(0, 20, 0));
        Check.due("load of 1 and 2", 5, x.load(0, 22, 0));
        Check.due("load of 2 and 1", 5, x.load(0, 41, 0));
        Check.due("load of 1 and 1", 9, x.load(0, 21, 0));
        Check.due("load of 0 and 0", 3, x.load(0, 0, 0));
        x.force(Check.text(x, "load hour-wash+turns*9;price 1;turn 1;"));
        x.set(1, 3);
        Check.due("load of an hour", 9, x.load(0, -1, 12));
    }

    private static void takes() {
        StandingUp x = Check.withCrossings(2);
        x.crossing(1, 12);
        x.crossing(60, 12);
        x.rower(0, 3000, -1);
        x.rower(1, 3000, -1);
        x.rower(5, 9001, -1);
        int[] badCrossings = {-1, 4, Integer.MAX_VALUE};
        for (int crossing : badCrossings) {
            Check.due("takes crossing", -2, x.takes(crossing, 1));
        }
        int[] badRowers = {-1, -2, -20, 0, 21, 42, 3, 60, 19, Integer.MIN_VALUE, Integer.MAX_VALUE};
        for (int two : badRowers) {
            Check.due("takes rowers " + two, -2, x.takes(0, two));
        }
        // paces 10, 12, 5
        for (int wash = 0; wash < 10; wash++) {
            x.set(1, wash);
            int[] strokes = {10, 20, 1, 60};
            int[] twos = {1, 20, 2, 40, 22, 41};
            int[] paces = {22, 22, 15, 15, 17, 17};
            for (int c = 0; c < 4; c++) {
                for (int i = 0; i < twos.length; i++) {
                    int due = (int) Math.ceil((strokes[c] + 2 * wash) / (double) paces[i]);
                    Check.due("takes of " + c + ", " + twos[i], due, x.takes(c, twos[i]));
                }
            }
        }
    }
}
