/** Terms 2 (OPEN, ON FOOT, LOST, FOG) and promises 17 to 21: each sentence that names a bound, and both sides of it. */
final class BoundsOfFootTest {
    private static final int FAR = Integer.MAX_VALUE, FAR_BELOW = Integer.MIN_VALUE;

    public static void main(String[] args) {
        rowers0To42();
        twoOrThreeToEach();
        fewestRowersThenLeastBits();
        openOrShutDoesNotMatter();
        whatOfOpen();
        pathsOf0To99();
        pathsBetweenTwo();
        footOfAnyTwo();
        fiveMinutesOver();
        pathOf0IsNone();
        lostByNone();
        lostWithoutAWay();
        lostMoreMinutes();
        lostChangesNothing();
        cells0To63();
        goes();
        bells();
        howFar();
        minutes0To60();
        firstOfLikeMinutes();
        turnsAbout();
        staysFromThenOn();
        metOrChanged();
        whatOfFog();
        Check.end();
    }

    /** Crossings of so many strokes each, with so many heads each. */
    private static StandingUp withHeads(int[] strokes, int... heads) {
        StandingUp x = new StandingUp();
        for (int i = 0; i < strokes.length; i++) {
            x.crossing(strokes[i], 12);
            x.set(20 + i, heads[i]);
        }
        return x;
    }

    private static void opens(StandingUp x, int rowers, int crossings, int heads, int needed) {
        Check.due("open of " + rowers, crossings, x.open(rowers, 0));
        Check.due("heads of " + rowers, heads, x.open(rowers, 1));
        Check.due("rowers of " + rowers, needed, x.open(rowers, 2));
    }

    /** "with so many ROWERS (0 .. 42 ..)"; promise 17: "BAD." */
    private static void rowers0To42() {
        int[] sevenLong = {31, 60, 31, 60, 31, 60, 31};
        StandingUp x = withHeads(sevenLong, 1, 2, 4, 8, 16, 32, 64);
        int[] wrong = {FAR_BELOW, -1, 43, FAR};
        for (int rowers : wrong) {
            opens(x, rowers, -2, -2, -2);
        }
        opens(x, 0, 0, 0, 0);
        opens(x, 2, 0, 0, 0);
        opens(x, 3, 64, 64, 3);
        opens(x, 20, 126, 126, 18);
        opens(x, 21, 127, 127, 21);
        opens(x, 42, 127, 127, 21);
        opens(new StandingUp(), 0, 0, 0, 0);
        opens(new StandingUp(), 42, 0, 0, 0);
    }

    /** "2 to each CROSSING, 3 if STROKES are above 30" */
    private static void twoOrThreeToEach() {
        for (int strokes = 1; strokes <= 60; strokes++) {
            StandingUp x = withHeads(new int[] {strokes}, 999);
            int needed = strokes > 30 ? 3 : 2;
            opens(x, needed - 1, 0, 0, 0);
            opens(x, needed, 1, 999, needed);
        }
    }

    /** "of like ones the fewest ROWERS, then the least as bits" */
    private static void fewestRowersThenLeastBits() {
        int[] longAndShort = {31, 30};
        opens(withHeads(longAndShort, 5, 5), 3, 2, 5, 2);
        opens(withHeads(longAndShort, 6, 5), 3, 1, 6, 3);
        opens(withHeads(longAndShort, 5, 0), 5, 1, 5, 3);
        opens(withHeads(longAndShort, 0, 0), 42, 0, 0, 0);
        int[] threeShort = {1, 1, 1};
        opens(withHeads(threeShort, 7, 7, 7), 2, 1, 7, 2);
        opens(withHeads(threeShort, 0, 7, 7), 3, 2, 7, 2);
        opens(withHeads(threeShort, 7, 7, 7), 4, 3, 14, 4);
        opens(withHeads(threeShort, 7, 7, 7), 6, 7, 21, 6);
        // one long one and two short ones, as many heads: two short ones need 4, one long one 3
        int[] three = {1, 1, 60};
        opens(withHeads(three, 5, 5, 10), 4, 4, 10, 3);
        opens(withHeads(three, 5, 5, 9), 4, 3, 10, 4);
    }

    /** OPEN asks which CROSSINGS to open, be they open or shut. */
    private static void openOrShutDoesNotMatter() {
        StandingUp x = withHeads(new int[] {1, 1}, 5, 6);
        x.set(10, 0);
        x.set(11, 0);
        opens(x, 4, 3, 11, 4);
        Check.due("and opens none", 0, x.count(2));
        x.set(11, 1);
        opens(x, 2, 2, 6, 2);
    }

    /** Promise 17: "the CROSSINGS (what 0), HEADS (1), ROWERS (2). BAD." */
    private static void whatOfOpen() {
        StandingUp x = withHeads(new int[] {60}, 999);
        int[] wrong = {FAR_BELOW, -1, 3, FAR};
        for (int what : wrong) {
            Check.due("what " + what, -2, x.open(3, what));
        }
        opens(x, 3, 1, 999, 3);
    }

    /** "PATHS between LANDINGS (0 .. 99 minutes ..)"; promise 18: "what was. BAD." */
    private static void pathsOf0To99() {
        StandingUp x = new StandingUp();
        int[] wrong = {FAR_BELOW, -1, 100, FAR};
        int was = 0;
        for (int minutes = 0; minutes <= 99; minutes++) {
            Check.due("path of " + minutes, was, x.path(12, minutes));
            was = minutes;
            Check.due("foot", minutes == 0 ? -1 : minutes, x.foot(12));
        }
        for (int minutes : wrong) {
            Check.due("path of " + minutes, -2, x.path(12, minutes));
            Check.due("stays", 99, x.foot(12));
        }
    }

    /** Promise 18: "(landings as of crossing())" */
    private static void pathsBetweenTwo() {
        StandingUp x = new StandingUp();
        for (int landings = -15; landings < 120; landings++) {
            boolean two = landings >= 0 && landings < 100 && landings / 10 != landings % 10;
            // the one from b to a is that from a to b, which came ahead of it
            boolean came = two && landings / 10 > landings % 10;
            Check.due("path " + landings, two ? came ? 9 : 0 : -2, x.path(landings, 9));
        }
        Check.due("path far", -2, x.path(FAR, 9));
        Check.due("path far below", -2, x.path(FAR_BELOW, 9));
    }

    /** Promise 19: "ON FOOT (landings: alike well). BAD; NONE." */
    private static void footOfAnyTwo() {
        StandingUp x = new StandingUp();
        for (int landings = -15; landings < 120; landings++) {
            boolean some = landings >= 0 && landings < 100;
            Check.due("foot " + landings, some ? landings % 11 == 0 ? 0 : -1 : -2, x.foot(landings));
        }
        Check.due("foot far", -2, x.foot(FAR));
        Check.due("foot far below", -2, x.foot(FAR_BELOW));
    }

    /** "over a CROSSING that is open 5 minutes: the least minutes from one to another one; NONE" */
    private static void fiveMinutesOver() {
        StandingUp x = new StandingUp();
        Check.due("no way", -1, x.foot(98));
        x.crossing(60, 98);
        Check.due("over it", 5, x.foot(98));
        Check.due("and back", 5, x.foot(89));
        x.path(98, 6);
        Check.due("a longer path", 5, x.foot(89));
        x.path(98, 5);
        Check.due("a path as long", 5, x.foot(89));
        x.path(98, 4);
        Check.due("a shorter path", 4, x.foot(89));
        x.set(10, 0);
        Check.due("shut", 4, x.foot(89));
        x.path(98, 99);
        Check.due("shut", 99, x.foot(89));
        x.path(98, 0);
        Check.due("no way", -1, x.foot(89));
        // the longest way: along all ten
        int last = 0;
        for (int a = 0; a < 9; a++) {
            x.path(11 * a + 1, 99);
            Check.due("ways of 99", 99 * (a + 1), x.foot(a + 1));
            last = 99 * (a + 1);
        }
        Check.due("all ten", last, x.foot(90));
        StandingUp y = Check.withCrossings(7);
        Check.due("seven crossings", 35, y.foot(7));
        Check.due("and none to the eighth", -1, y.foot(8));
    }

    /** "0: none, as at first" */
    private static void pathOf0IsNone() {
        StandingUp x = new StandingUp();
        Check.due("none at first", 0, x.path(12, 0));
        Check.due("none", -1, x.foot(12));
        x.path(23, 1);
        Check.due("no way through it", -1, x.foot(13));
        x.path(12, 1);
        Check.due("a way of one minute", 2, x.foot(13));
        Check.due("was 1", 1, x.path(12, 0));
        Check.due("none again", -1, x.foot(13));
    }

    /** Promise 20: "(0, if it is shut). BAD." */
    private static void lostByNone() {
        StandingUp x = new StandingUp();
        Check.due("none has come", -2, x.lost(0));
        x.crossing(1, 12);
        int[] wrong = {FAR_BELOW, -1, 1, 7, FAR};
        for (int crossing : wrong) {
            Check.due("lost " + crossing, -2, x.lost(crossing));
        }
        Check.due("open", 100, x.lost(0));
        x.set(10, 0);
        Check.due("shut", 0, x.lost(0));
        for (int i = 1; i < 7; i++) {
            x.crossing(1, 10 * i + 3 - (i == 3 ? 1 : 0));
        }
        Check.due("the seventh", 0, x.lost(6) < 0 ? 1 : 0);
        Check.due("no eighth", -2, x.lost(7));
    }

    /** "of all pairs of LANDINGS that have a way now .. (without a way then: 100 more)" */
    private static void lostWithoutAWay() {
        StandingUp x = new StandingUp();
        x.crossing(1, 45);
        Check.due("one pair", 100, x.lost(0));
        x.path(56, 99);
        Check.due("two pairs", 200, x.lost(0));
        x.path(34, 1);
        Check.due("two to two", 400, x.lost(0));
        // five to five landings are the most pairs
        for (int a = 0; a < 3; a++) {
            x.path(11 * a + 1, 1);
        }
        for (int a = 6; a < 9; a++) {
            x.path(11 * a + 1, 1);
        }
        Check.due("five to five", 2500, x.lost(0));
        StandingUp y = new StandingUp();
        y.crossing(1, 12);
        y.path(34, 7);
        Check.due("a way that is far off does not matter", 100, y.lost(0));
    }

    /** "how many more minutes they need then, together" */
    private static void lostMoreMinutes() {
        StandingUp x = new StandingUp();
        x.crossing(1, 12);
        int[] paths = {1, 4, 5, 6, 99};
        int[] due = {0, 0, 0, 1, 94};
        for (int i = 0; i < paths.length; i++) {
            x.path(21, paths[i]);
            Check.due("a path of " + paths[i], due[i], x.lost(0));
        }
        x.path(23, 1);
        x.path(13, 99);
        Check.due("12 by 100, 13 by 99: the path", 94 + 93, x.lost(0));
        x.path(12, 0);
        Check.due("12 by 100 minutes is a way", 95 + 93, x.lost(0));
        x.path(13, 0);
        Check.due("no way", 200, x.lost(0));
        x.crossing(60, 21);
        Check.due("one beside it", 0, x.lost(0));
        Check.due("and that one", 0, x.lost(1));
        x.set(11, 0);
        Check.due("which is shut", 200, x.lost(0));
    }

    private static void lostChangesNothing() {
        StandingUp x = Check.withCrossings(2);
        x.image();
        for (int i = 0; i < 3; i++) {
            Check.due("lost", 200, x.lost(0));
            Check.due("open ones", 2, x.count(2));
            Check.due("over it", 5, x.foot(1));
            Check.due("over both", 10, x.foot(2));
        }
        x.back();
        Check.due("open ones", 2, x.count(2));
    }

    // ---- fog

    private static void near(int one, int other, int bell, int least, int minute, int met) {
        StandingUp x = new StandingUp();
        String call = "near " + one + ", " + other + ", " + bell;
        Check.due(call + ": least", least, x.fog(one, other, bell, 0));
        Check.due(call + ": minute", minute, x.fog(one, other, bell, 1));
        Check.due(call + ": met", met, x.fog(one, other, bell, 2));
    }

    /** "on a canal of 64 cells, each at a cell"; promise 21: "BAD." */
    private static void cells0To63() {
        StandingUp x = new StandingUp();
        for (int cell = -2; cell < 70; cell++) {
            boolean on = cell >= 0 && cell <= 63;
            Check.due("one at " + cell, on ? cell : -2, x.fog(10 * cell + 1, 1, 10, 0));
            Check.due("other at " + cell, on ? 63 - cell : -2, x.fog(631, 10 * cell + 1, 10, 0));
        }
        int[] wrong = {FAR_BELOW, -10, -1, 640, 641, 642, FAR};
        for (int boat : wrong) {
            near(boat, 0, 10, -2, -2, -2);
            near(0, boat, 10, -2, -2, -2);
        }
    }

    /** "going 1, 0 or -1" ("1 more than it goes") */
    private static void goes() {
        StandingUp x = new StandingUp();
        for (int last = 0; last < 10; last++) {
            Check.due("one goes " + (last - 1), last <= 2 ? 0 : -2, x.fog(300 + last, 301, 10, 2) < 0 ? -2 : 0);
            Check.due("other goes " + (last - 1), last <= 2 ? 0 : -2, x.fog(301, 630 + last, 10, 2) < 0 ? -2 : 0);
        }
        near(100, 201, 10, 0, 30, 1);
        near(101, 201, 10, 10, 0, 0);
        near(102, 201, 10, 0, 10, 1);
    }

    /** "in MINUTES k, 2 k, .. (k 1 .. 9)" ("10 times k, and how far") */
    private static void bells() {
        StandingUp x = new StandingUp();
        for (int bell = -3; bell < 115; bell++) {
            Check.due("bell " + bell, bell >= 10 && bell <= 99 ? 0 : -2, x.fog(0, 0, bell, 0));
        }
        Check.due("bell far", -2, x.fog(0, 0, FAR, 0));
        Check.due("bell far below", -2, x.fog(0, 0, FAR_BELOW, 0));
        // one stays at 0 and rings; the other one comes by 1 a minute, and is heard from 9 off on
        for (int k = 1; k <= 9; k++) {
            int heard = (11 + k - 1) / k * k;
            near(1, 200, 10 * k + 9, 20 - heard, heard, 0);
        }
    }

    /** "if it is no more than so far (0 .. 9) off then" */
    private static void howFar() {
        for (int far = 0; far <= 9; far++) {
            near(1, 200, 10 + far, far, 20 - far, far == 0 ? 1 : 0);
            near(1, 10 * far + 1, 10 + far, far, 0, far == 0 ? 1 : 0);
        }
        // just as far off in MINUTE 1, and one further
        near(1, 101, 19, 10, 0, 0);
        near(1, 100, 19, 9, 1, 0);
        near(1, 110, 19, 9, 2, 0);
        // not in MINUTE 0
        near(1, 50, 19, 4, 1, 0);
        near(1, 50, 29, 3, 2, 0);
        near(1, 10, 10, 0, 1, 1);
    }

    /** "the least distance in MINUTES 0 .. 60" */
    private static void minutes0To60() {
        near(1, 600, 90, 0, 60, 1);
        near(1, 610, 90, 1, 60, 0);
        near(1, 620, 90, 2, 60, 0);
        near(1, 630, 90, 3, 60, 0);
        near(302, 302, 10, 0, 0, 1);
        near(302, 292, 10, 1, 0, 1);
        near(1, 632, 90, 3, 60, 0);
    }

    /** "in which MINUTE first" */
    private static void firstOfLikeMinutes() {
        near(101, 101, 10, 0, 0, 1);
        near(102, 112, 90, 1, 0, 1);
        near(302, 312, 90, 1, 0, 1);
        near(100, 110, 90, 1, 0, 1);
        near(301, 341, 90, 4, 0, 0);
        near(300, 311, 90, 1, 0, 0);
        near(1, 20, 90, 0, 2, 1);
    }

    /** "where it would leave the canal it turns about ahead of that" */
    private static void turnsAbout() {
        // at 0 and going out, it is at 1 a minute later
        near(0, 51, 90, 0, 5, 1);
        near(2, 51, 90, 0, 5, 1);
        near(10, 51, 90, 0, 6, 1);
        near(632, 581, 90, 0, 5, 1);
        near(630, 581, 90, 0, 5, 1);
        near(622, 581, 90, 0, 6, 1);
        // both at one end
        near(0, 0, 90, 0, 0, 1);
        near(0, 12, 90, 1, 0, 0);
        near(630, 621, 10, 0, 1, 1);
        near(632, 621, 10, 0, 1, 1);
    }

    /** "the other one .. stays there from then on" */
    private static void staysFromThenOn() {
        // heard at 9 off in MINUTE 1, the one goes on to it
        near(2, 101, 19, 0, 10, 1);
        near(2, 112, 19, 2, 60, 0);
        // it is the other one that stays, not the one that rings
        near(300, 310, 11, 0, 60, 1);
    }

    /** "whether they were at one cell, or changed cells in a MINUTE" */
    private static void metOrChanged() {
        near(302, 310, 90, 1, 0, 1);
        near(302, 320, 90, 0, 1, 1);
        near(302, 330, 90, 1, 1, 1);
        near(312, 300, 90, 1, 0, 0);
        near(301, 310, 90, 0, 1, 1);
        near(301, 312, 90, 1, 0, 0);
        near(301, 301, 90, 0, 0, 1);
        // neighbours that go the same way neither meet nor change
        near(102, 112, 11, 0, 2, 1);
        near(102, 122, 11, 0, 52, 1);
        near(1, 11, 11, 1, 0, 0);
    }

    /** Promise 21: "the least distance (what 0), its MINUTE (1), whether .. (2). BAD." */
    private static void whatOfFog() {
        StandingUp x = new StandingUp();
        int[] wrong = {FAR_BELOW, -1, 3, FAR};
        for (int what : wrong) {
            Check.due("what " + what, -2, x.fog(0, 0, 10, what));
        }
    }
}
