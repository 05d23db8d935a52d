/** Terms 1 (CROSSINGS, ROWERS) and promises 1 to 6: each sentence that names a bound, and what lies on both sides of it. */
final class BoundsOfCrossingsTest {
    private static final int FAR = Integer.MAX_VALUE, FAR_BELOW = Integer.MIN_VALUE;

    public static void main(String[] args) {
        noCrossings();
        sevenCrossingsAtMost();
        strokesFrom1To60();
        landingsAreTwoOfTen();
        openOrShut();
        tideAndWash();
        headsFrom0To999();
        setNoneSuch();
        fourteenRowersAtMost();
        sixKinds();
        agesFrom14To90();
        numbersFrom0To9();
        crossingOfARower();
        fathersStandAhead();
        wellOrIll();
        toldNoneSuch();
        paceOfOldOnesIsCut();
        paceOfElderOnesIsCut();
        paceOfMastersByNumber();
        hoursOfARower();
        hoursOfAnHeir();
        hoursOfAnOldOne();
        hoursOfAMaster();
        hoursOfAStandIn();
        hoursOfAnElder();
        parts();
        Check.end();
    }

    /** Promise 1: "No CROSSINGS." */
    private static void noCrossings() {
        StandingUp x = new StandingUp();
        Check.due("no crossings", 0, x.count(0));
        Check.due("takes", -2, x.takes(0, 1));
        Check.due("turn", -2, x.turn(0, 9));
        Check.due("rowed", -2, x.rowed(0, 9));
        Check.due("lost", -2, x.lost(0));
        Check.due("shares", -2, x.shares(0, 5, -1));
        Check.due("bridge", -2, x.bridge(0, 5));
        Check.due("judge", -2, x.judge(0, 0));
        Check.due("rower", -2, x.rower(0, 2000, -1));
        Check.due("open or shut", -1000, x.set(10, 1));
        Check.due("heads", -1000, x.set(20, 0));
        Check.due("the crossings to open", 0, x.open(42, 0));
        Check.due("their heads", 0, x.open(42, 1));
        Check.due("their rowers", 0, x.open(42, 2));
    }

    /** "CROSSINGS (7 at most, numbered from 0)"; promise 2: "its number. BAD; FULL." */
    private static void sevenCrossingsAtMost() {
        StandingUp x = new StandingUp();
        for (int i = 0; i < 7; i++) {
            Check.due("a wrong one takes no number", -2, x.crossing(0, 12));
            Check.due("crossing", i, x.crossing(60 - i, 12));
            Check.due("so many", i + 1, x.count(0));
        }
        Check.due("an eighth", -4, x.crossing(5, 12));
        Check.due("a wrong eighth, strokes", -2, x.crossing(61, 12));
        Check.due("a wrong eighth, landings", -2, x.crossing(5, 22));
        Check.due("seven", 7, x.count(0));
        Check.due("the seventh may be asked of", 0, x.bridge(6, 0));
        Check.due("and no eighth", -2, x.bridge(7, 0));
    }

    /** "STROKES (1 .. 60)" */
    private static void strokesFrom1To60() {
        int[] wrong = {FAR_BELOW, -1, 0, 61, 62, FAR};
        for (int strokes : wrong) {
            Check.due("strokes " + strokes, -2, new StandingUp().crossing(strokes, 1));
        }
        for (int strokes = 1; strokes <= 60; strokes++) {
            Check.due("strokes " + strokes, 0, new StandingUp().crossing(strokes, 1));
        }
    }

    /** "LANDINGS a, b (of 10, 0 .. 9, unlike)" */
    private static void landingsAreTwoOfTen() {
        for (int landings = -20; landings < 130; landings++) {
            boolean two = landings >= 0 && landings < 100 && landings / 10 != landings % 10;
            Check.due("landings " + landings, two ? 0 : -2, new StandingUp().crossing(1, landings));
        }
        Check.due("landings far", -2, new StandingUp().crossing(1, FAR));
        Check.due("landings far below", -2, new StandingUp().crossing(1, FAR_BELOW));
    }

    /** "open (1, at first) or shut (0)"; promise 3: "of CROSSING what - 10: open or shut (10 .. 16)" */
    private static void openOrShut() {
        StandingUp x = Check.withCrossings(7);
        for (int i = 0; i < 7; i++) {
            Check.due("open at first", 1, x.set(10 + i, 1));
            Check.due("shut", 1, x.set(10 + i, 0));
            Check.due("2", -1000, x.set(10 + i, 2));
            Check.due("-1", -1000, x.set(10 + i, -1));
            Check.due("open ones", 6 - i, x.count(2));
        }
        Check.due("shut still", 0, x.set(16, 0));
    }

    /** "TIDE, WASH are 0 .. 9 (0 at first)" */
    private static void tideAndWash() {
        StandingUp x = new StandingUp();
        int[] wrong = {FAR_BELOW, -1, 10, FAR};
        for (int what = 0; what < 2; what++) {
            int was = 0;
            for (int v = 0; v < 10; v++) {
                Check.due("was", was, x.set(what, v));
                was = v;
                for (int w : wrong) {
                    Check.due("none such", -1000, x.set(what, w));
                }
            }
        }
        Check.due("tide", 9, x.set(0, 0));
        Check.due("wash", 9, x.set(1, 0));
    }

    /** "HEADS (told of each: 0 .. 999, 0 at first)" */
    private static void headsFrom0To999() {
        StandingUp x = Check.withCrossings(7);
        int[] wrong = {FAR_BELOW, -1, 1000, FAR};
        for (int i = 0; i < 7; i++) {
            Check.due("at first", 0, x.set(20 + i, 999));
            for (int w : wrong) {
                Check.due("none such", -1000, x.set(20 + i, w));
            }
            Check.due("was", 999, x.set(20 + i, 0));
            Check.due("was", 0, x.set(20 + i, 500 + i));
        }
        for (int i = 0; i < 7; i++) {
            Check.due("each has its own", 500 + i, x.bridge(i, 0));
        }
    }

    /** Promise 3: "-1000: none such." */
    private static void setNoneSuch() {
        StandingUp x = Check.withCrossings(7);
        for (int what = -30; what < 60; what++) {
            boolean some = what == 0 || what == 1 || what >= 10 && what <= 16 || what >= 20 && what <= 26;
            int was = what >= 10 && what <= 16 ? 1 : 0;
            Check.due("set " + what, some ? was : -1000, x.set(what, 1));
        }
        Check.due("set far", -1000, x.set(FAR, 0));
        Check.due("set far below", -1000, x.set(FAR_BELOW, 0));
        StandingUp y = Check.withCrossings(3);
        Check.due("open 2", 1, y.set(12, 1));
        Check.due("open 3, which has not come", -1000, y.set(13, 1));
        Check.due("heads 2", 0, y.set(22, 1));
        Check.due("heads 3, which has not come", -1000, y.set(23, 1));
    }

    /** "ROWERS (14 at most, numbered from 0)"; promise 4: "its number. BAD (..); FULL." */
    private static void fourteenRowersAtMost() {
        StandingUp x = Check.withCrossings(1);
        for (int i = 0; i < 14; i++) {
            Check.due("a wrong one takes no number", -2, x.rower(0, 1300, -1));
            Check.due("rower", i, x.rower(0, 2000, i - 1));
            Check.due("so many", i + 1, x.count(1));
        }
        Check.due("a fifteenth", -4, x.rower(0, 2000, 13));
        Check.due("a wrong fifteenth, kind", -2, x.rower(-1, 2000, 13));
        Check.due("a wrong fifteenth, age", -2, x.rower(0, 1300, 13));
        Check.due("a wrong fifteenth, father", -2, x.rower(0, 2000, 14));
        Check.due("fourteen", 14, x.count(1));
        Check.due("the last one is told of", 12, x.told(13, 0, 4));
        Check.due("the two last ones row", 14, x.load(0, 20 * 12 + 13, 0));
        Check.due("none behind them", -2, x.load(0, 20 * 12 + 14, 0));
        Check.due("none behind them", -2, x.load(0, 20 * 14, 0));
        Check.due("the two last ones take", 1, x.takes(0, 20 * 13 + 12));
        Check.due("none behind them takes", -2, x.takes(0, 20 * 13 + 14));
        Check.due("none behind them takes", -2, x.takes(0, 20 * 14 + 13));
    }

    /** "ROWERS have a KIND: 0 ROWER, .. 5 ELDER" */
    private static void sixKinds() {
        int[] wrong = {FAR_BELOW, -1, 6, 7, FAR};
        for (int kind : wrong) {
            Check.due("kind " + kind, -2, Check.withCrossings(1).rower(kind, 2000, -1));
        }
        for (int kind = 0; kind < 6; kind++) {
            StandingUp x = Check.withCrossings(1);
            Check.due("kind " + kind, 0, x.rower(kind, 2000, -1));
            Check.due("kind " + kind, kind, x.told(0, 0, 0));
        }
    }

    /** "an AGE (14 .. 90)" */
    private static void agesFrom14To90() {
        for (int age = -2; age < 120; age++) {
            StandingUp x = Check.withCrossings(1);
            Check.due("age " + age, age >= 14 && age <= 90 ? 0 : -2, x.rower(0, 100 * age, -1));
            Check.due("age " + age, age >= 14 && age <= 90 ? age : -1000000, x.told(0, 0, 1));
        }
        StandingUp x = Check.withCrossings(7);
        Check.due("the least that is 14", 0, x.rower(0, 1400, -1));
        Check.due("the most that is 90", 1, x.rower(0, 9096, -1));
        Check.due("13, with a number and a crossing", -2, x.rower(0, 1396, -1));
        Check.due("rest far", -2, x.rower(0, FAR, -1));
        Check.due("rest far below", -2, x.rower(0, FAR_BELOW, -1));
        Check.due("rest below 0", -2, x.rower(0, -2000, -1));
    }

    /** "a NUMBER (0 .. 9)" */
    private static void numbersFrom0To9() {
        StandingUp x = Check.withCrossings(2);
        for (int number = 0; number < 10; number++) {
            Check.due("rower", number, x.rower(0, 2001 + 10 * number, -1));
            Check.due("number", number, x.told(number, 0, 2));
            Check.due("number", number, x.taken(number, 0));
            Check.due("crossing", 1, x.told(number, 0, 3));
            Check.due("age", 20, x.told(number, 0, 1));
        }
    }

    /** A ROWER has "a CROSSING", one that has come. */
    private static void crossingOfARower() {
        for (int crossings = 0; crossings <= 7; crossings++) {
            for (int of = 0; of < 10; of++) {
                StandingUp x = Check.withCrossings(crossings);
                Check.due("crossing " + of + " of " + crossings, of < crossings ? 0 : -2, x.rower(0, 2000 + of, -1));
            }
        }
    }

    /** "a FATHER (one of those ahead of it, or NONE)" */
    private static void fathersStandAhead() {
        for (int rowers = 0; rowers < 5; rowers++) {
            for (int father = -3; father < 8; father++) {
                StandingUp x = Check.withCrossings(1);
                for (int i = 0; i < rowers; i++) {
                    x.rower(0, 2000, -1);
                }
                boolean ahead = father >= -1 && father < rowers;
                Check.due("father " + father + " of " + rowers, ahead ? rowers : -2, x.rower(0, 2000, father));
                Check.due("father", ahead ? father : -1000000, x.told(rowers, 0, 4));
            }
        }
    }

    /** "well, or ILL (1)"; promise 5: "what it was. BAD." */
    private static void wellOrIll() {
        StandingUp x = Check.withCrossings(1);
        Check.due("of none", -2, x.ill(0, 1));
        x.rower(0, 2000, -1);
        Check.due("well at first", 0, x.told(0, 0, 5));
        Check.due("it was well", 0, x.ill(0, 1));
        Check.due("ill", 1, x.told(0, 0, 5));
        int[] wrong = {FAR_BELOW, -1, 2, FAR};
        for (int is : wrong) {
            Check.due("ill " + is, -2, x.ill(0, is));
            Check.due("ill still", 1, x.told(0, 0, 5));
        }
        int[] none = {FAR_BELOW, -1, 1, 13, 14, FAR};
        for (int rower : none) {
            Check.due("ill of " + rower, -2, x.ill(rower, 0));
        }
        Check.due("it was ill", 1, x.ill(0, 0));
        Check.due("it was well", 0, x.ill(0, 0));
    }

    /** Promise 6: "-1000000: none such." */
    private static void toldNoneSuch() {
        StandingUp x = Check.withCrossings(1);
        Check.due("of none", -1000000, x.told(0, 0, 0));
        x.rower(0, 2000, -1);
        for (int what = 0; what <= 10; what++) {
            Check.due("rower -1", -1000000, x.told(-1, 0, what));
            Check.due("rower 1", -1000000, x.told(1, 0, what));
            Check.due("rower far", -1000000, x.told(FAR, 0, what));
            Check.due("hour -1", -1000000, x.told(0, -1, what));
            Check.due("hour 24", -1000000, x.told(0, 24, what));
            Check.due("hour far below", -1000000, x.told(0, FAR_BELOW, what));
            Check.due("hour 0", 0, x.told(0, 0, what) == -1000000 ? 1 : 0);
            Check.due("hour 23", 0, x.told(0, 23, what) == -1000000 ? 1 : 0);
        }
        int[] wrong = {FAR_BELOW, -1, 11, 12, FAR};
        for (int what : wrong) {
            Check.due("what " + what, -1000000, x.told(0, 0, what));
        }
    }

    private static int told(int kind, int age, int number, int hour, int what) {
        StandingUp x = Check.withCrossings(1);
        x.rower(kind, 100 * age + 10 * number, -1);
        return x.told(0, hour, what);
    }

    /** "OLD: a ROWER's, less (AGE by 20, cut)" */
    private static void paceOfOldOnesIsCut() {
        int[] ages = {14, 19, 20, 39, 40, 59, 60, 79, 80, 90};
        int[] due = {10, 10, 9, 9, 8, 8, 7, 7, 6, 6};
        for (int i = 0; i < ages.length; i++) {
            Check.due("old one of " + ages[i], due[i], told(2, ages[i], 9, 0, 7));
        }
    }

    /** "ELDER: 2 more than half (cut) of an OLD one's" */
    private static void paceOfElderOnesIsCut() {
        int[] ages = {14, 19, 20, 39, 40, 59, 60, 79, 80, 90};
        int[] due = {7, 7, 6, 6, 6, 6, 5, 5, 5, 5};
        for (int i = 0; i < ages.length; i++) {
            Check.due("elder of " + ages[i], due[i], told(5, ages[i], 9, 0, 7));
        }
    }

    /** "HEIR: 2 more than a ROWER; MASTER: an HEIR's and NUMBER; STAND-IN: as a ROWER, 3 less" */
    private static void paceOfMastersByNumber() {
        for (int number = 0; number < 10; number++) {
            Check.due("rower", 10, told(0, 90, number, 0, 7));
            Check.due("heir", 12, told(1, 90, number, 0, 7));
            Check.due("master " + number, 12 + number, told(3, 90, number, 0, 7));
            Check.due("stand-in", 7, told(4, 90, number, 0, 7));
        }
    }

    private static void may(String call, int due, int kind, int age, int number, int hour) {
        Check.due(call, due, told(kind, age, number, hour, 8));
    }

    private static void illMayNot(int kind, int number) {
        StandingUp x = Check.withCrossings(1);
        x.rower(kind, 4000 + 10 * number, -1);
        x.ill(0, 1);
        for (int hour = 0; hour < 24; hour++) {
            Check.due("an ill one of kind " + kind + " at " + hour, 0, x.told(0, hour, 8));
        }
    }

    /** "ROWER: from 6 on, ahead of 22, if it isn't ILL" */
    private static void hoursOfARower() {
        may("ahead of 6", 0, 0, 14, 0, 5);
        may("from 6 on", 1, 0, 14, 0, 6);
        may("ahead of 22", 1, 0, 14, 0, 21);
        may("22", 0, 0, 14, 0, 22);
        may("0", 0, 0, 14, 0, 0);
        may("23", 0, 0, 14, 0, 23);
        illMayNot(0, 9);
    }

    /** "HEIR: as a ROWER, and AGE is above 15" */
    private static void hoursOfAnHeir() {
        may("15", 0, 1, 15, 0, 6);
        may("16", 1, 1, 16, 0, 6);
        may("16, ahead of 6", 0, 1, 16, 5, 5);
        may("16, ahead of 22", 1, 1, 16, 0, 21);
        may("16, at 22", 0, 1, 16, 0, 22);
        illMayNot(1, 9);
    }

    /** "OLD: as a ROWER, and HOUR is even, or NUMBER is above 4" */
    private static void hoursOfAnOldOne() {
        may("number 4, even", 1, 2, 60, 4, 6);
        may("number 4, odd", 0, 2, 60, 4, 7);
        may("number 5, odd", 1, 2, 60, 5, 7);
        may("number 4, at 20", 1, 2, 60, 4, 20);
        may("number 4, at 21", 0, 2, 60, 4, 21);
        may("number 5, at 21", 1, 2, 60, 5, 21);
        may("number 4, at 22", 0, 2, 60, 4, 22);
        may("number 5, at 22", 0, 2, 60, 5, 22);
        may("number 5, at 5", 0, 2, 60, 5, 5);
        may("number 4, at 4", 0, 2, 60, 4, 4);
        illMayNot(2, 4);
        illMayNot(2, 5);
    }

    /** "MASTER: as an HEIR, or HOUR is its NUMBER and it isn't ILL" */
    private static void hoursOfAMaster() {
        may("at its number", 1, 3, 14, 0, 0);
        may("behind its number", 0, 3, 14, 0, 1);
        may("at its number", 1, 3, 14, 5, 5);
        may("at its number, 15", 1, 3, 15, 9, 9);
        may("behind its number, 15", 0, 3, 15, 9, 10);
        may("ahead of its number, 15", 0, 3, 15, 9, 8);
        may("behind its number, 16", 1, 3, 16, 9, 10);
        may("at 21, 16", 1, 3, 16, 9, 21);
        may("at 22, 16", 0, 3, 16, 9, 22);
        illMayNot(3, 5);
        illMayNot(3, 9);
    }

    /** "STAND-IN: as a ROWER, or (not ILL) HOUR is 22 or more" */
    private static void hoursOfAStandIn() {
        may("ahead of 6", 0, 4, 14, 5, 5);
        may("from 6 on", 1, 4, 14, 0, 6);
        may("21", 1, 4, 14, 0, 21);
        may("22", 1, 4, 14, 0, 22);
        may("23", 1, 4, 14, 0, 23);
        may("0", 0, 4, 14, 0, 0);
        illMayNot(4, 9);
    }

    /** "ELDER: as an OLD one, and ahead of 14" */
    private static void hoursOfAnElder() {
        may("number 4, at 12", 1, 5, 60, 4, 12);
        may("number 4, at 13", 0, 5, 60, 4, 13);
        may("number 5, at 13", 1, 5, 60, 5, 13);
        may("number 4, at 14", 0, 5, 60, 4, 14);
        may("number 5, at 14", 0, 5, 60, 5, 14);
        may("number 5, at 5", 0, 5, 60, 5, 5);
        may("number 4, at 6", 1, 5, 60, 4, 6);
        illMayNot(5, 9);
    }

    /** "PARTS: ROWER 4; HEIR 1 less ..; MASTER twice an HEIR's; STAND-IN half (cut) ..; ELDER 1 more than an OLD one's" */
    private static void parts() {
        int[] due = {4, 3, 4, 6, 2, 5};
        for (int kind = 0; kind < 6; kind++) {
            Check.due("parts of kind " + kind, due[kind], told(kind, 14, 0, 0, 9));
            Check.due("parts of kind " + kind, due[kind], told(kind, 90, 9, 23, 9));
        }
    }
}
