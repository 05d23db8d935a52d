/** Terms 2 (BOX, SHARES, BRIDGE, IMAGE) and promises 22 to 27: each sentence that names a bound, and both sides of it. */
final class BoundsOfCoinsTest {
    private static final int FAR = Integer.MAX_VALUE, FAR_BELOW = Integer.MIN_VALUE;

    public static void main(String[] args) {
        heads0To198();
        off0To9();
        coins0To99999();
        hoursOfABox();
        zeroTo99OfEach();
        bothAreRight();
        justSoManyCoins();
        sharesAreCut();
        sharesOfNobody();
        sharesOfRowersOfTheCrossing();
        coinsOfShares();
        hundredths0To100();
        headsLeftAreCut();
        backWithoutAnImage();
        imageKeepsAll();
        cameSince();
        imageOfNothing();
        lastImage();
        countOfEach();
        countNoneSuch();
        Check.end();
    }

    /** A new object with prices of a local and of a stranger. */
    private static StandingUp withPrices(int local, int stranger) {
        StandingUp x = new StandingUp();
        x.force(Check.text(x, "load 1;price heads*" + local + "+(1-heads)*" + stranger + ";turn 1;"));
        Check.due("the rule", 1, x.count(7));
        return x;
    }

    /** "heads: 1000 times what the one told, and the other one, 0 .. 198" */
    private static void heads0To198() {
        StandingUp x = withPrices(0, 0);
        int[] told = {-1, 0, 1, 99, 198, 199, 200, 999};
        int[] ways = {-2, 1, 2, 100, 1, -2, -2, -2};
        for (int i = 0; i < told.length; i++) {
            Check.due("both told " + told[i], ways[i], x.box(1000 * told[i] + told[i], 0, 0, 0));
            Check.due("the one told " + told[i], ways[i] < 0 ? -2 : told[i] == 99 ? 100 : 0, x.box(1000 * told[i] + 99, 0, 0, 0));
        }
        Check.due("the other one told 198", 0, x.box(198, 9, 0, 0));
        Check.due("the other one told 199", -2, x.box(199, 9, 0, 0));
        Check.due("the one told 198", 0, x.box(198000, 9, 0, 0));
        Check.due("the one told 199", -2, x.box(199000, 9, 0, 0));
        Check.due("198 and 199", -2, x.box(198199, 9, 0, 0));
        Check.due("199 and 198", -2, x.box(199198, 9, 0, 0));
        int[] wrong = {FAR_BELOW, -1000, -999, -1, 1000000, FAR};
        for (int heads : wrong) {
            Check.due("heads " + heads, -2, x.box(heads, 0, 0, 0));
        }
    }

    /** "off 0 .. 9" */
    private static void off0To9() {
        StandingUp x = withPrices(1, 1);
        int[] wrong = {FAR_BELOW, -1, 10, FAR};
        for (int off : wrong) {
            Check.due("off " + off, -2, x.box(0, off, 0, 0));
        }
        for (int off = 0; off <= 9; off++) {
            Check.due("just so much off", 51, x.box(50050, off, 50, 0));
            Check.due("below", 51 - off, x.box(50050, off, 50 - off, 0));
            Check.due("above", 51 + off, x.box(50050, off, 50 + off, 0));
            Check.due("too far below", 0, x.box(50050, off, 49 - off, 0));
            Check.due("too far above", 0, x.box(50050, off, 51 + off, 0));
        }
        Check.due("not below nobody", 1, x.box(0, 9, 0, 0));
    }

    /** "coins 0 .. 99999" */
    private static void coins0To99999() {
        StandingUp x = withPrices(99, 99);
        int[] wrong = {FAR_BELOW, -1, 100000, FAR};
        for (int coins : wrong) {
            Check.due("coins " + coins, -2, x.box(0, 0, coins, 0));
        }
        Check.due("no coins", 1, x.box(0, 0, 0, 0));
        Check.due("one coin", 0, x.box(0, 0, 1, 0));
        Check.due("the most that can be paid", 1, x.box(198198, 0, 198 * 99, 0));
        Check.due("and a coin more", 0, x.box(198198, 9, 198 * 99 + 1, 0));
        Check.due("the most coins", 0, x.box(198198, 9, 99999, 0));
    }

    /** "(price of THE RULE in an HOUR)", an HOUR is 0 .. 23. */
    private static void hoursOfABox() {
        StandingUp x = new StandingUp();
        x.force(Check.text(x, "load 1;price hour;turn 1;"));
        int[] wrong = {FAR_BELOW, -1, 24, FAR};
        for (int hour : wrong) {
            Check.due("hour " + hour, -2, x.box(0, 0, 0, hour));
        }
        for (int hour = 0; hour < 24; hour++) {
            Check.due("hour " + hour, 2, x.box(1001, 0, hour, hour));
            Check.due("another price", 0, x.box(1001, 0, hour + 1, hour));
        }
    }

    /** "(locals 0 .. 99, strangers 0 .. 99)" */
    private static void zeroTo99OfEach() {
        StandingUp x = withPrices(1, 0);
        Check.due("99 locals", 1, x.box(99099, 0, 99, 0));
        Check.due("100 locals", 0, x.box(100100, 0, 100, 0));
        Check.due("99 strangers", 1, x.box(99099, 0, 0, 0));
        Check.due("100 strangers", 0, x.box(100100, 0, 0, 0));
        Check.due("99 and 1 of 100", 1, x.box(100100, 0, 99, 0));
        Check.due("1 and 99 of 100", 1, x.box(100100, 0, 1, 0));
        StandingUp y = withPrices(0, 0);
        for (int all = 0; all <= 198; all++) {
            Check.due("ways of " + all, all < 99 ? all + 1 : 199 - all, y.box(1001 * all, 0, 0, 0));
        }
    }

    /** "told heads by two, who are off by so much each at most: .. both are right" */
    private static void bothAreRight() {
        StandingUp x = withPrices(1, 1);
        Check.due("20 and 26, off by 3: 23", 24, x.box(20026, 3, 23, 0));
        Check.due("20 and 26, off by 3: not 22", 0, x.box(20026, 3, 22, 0));
        Check.due("20 and 26, off by 3: not 24", 0, x.box(20026, 3, 24, 0));
        Check.due("26 and 20, off by 3", 24, x.box(26020, 3, 23, 0));
        Check.due("20 and 27, off by 3", 0, x.box(20027, 3, 23, 0));
        Check.due("20 and 27, off by 3", 0, x.box(20027, 3, 24, 0));
        Check.due("20 and 27, off by 4", 24, x.box(20027, 4, 23, 0));
        Check.due("20 and 27, off by 4", 25, x.box(20027, 4, 24, 0));
        StandingUp y = withPrices(0, 0);
        Check.due("0 and 18, off by 9", 10, y.box(18, 9, 0, 0));
        Check.due("0 and 19, off by 9", 0, y.box(19, 9, 0, 0));
    }

    /** "the box has just so many coins" */
    private static void justSoManyCoins() {
        StandingUp x = withPrices(2, 10);
        Check.due("3 locals and 2 strangers", 1, x.box(5005, 0, 26, 0));
        Check.due("a coin less", 0, x.box(5005, 0, 25, 0));
        Check.due("a coin more", 0, x.box(5005, 0, 27, 0));
        // 5 locals more for 1 stranger less
        Check.due("two ways", 2, x.box(7007, 2, 26, 0));
    }

    /** "parted by PARTS .. (by numbers, each cut; the rest is the guild's)" */
    private static void sharesAreCut() {
        StandingUp x = Check.withCrossings(1);
        x.rower(0, 2000, -1);
        x.rower(1, 2000, -1);
        for (int coins = 0; coins < 60; coins++) {
            Check.due("the rower's of " + coins, coins * 4 / 7, x.shares(0, coins, 0));
            Check.due("the heir's of " + coins, coins * 3 / 7, x.shares(0, coins, 1));
            Check.due("the guild's of " + coins, coins % 7 == 0 ? 0 : 1, x.shares(0, coins, -1));
        }
        StandingUp y = Check.withCrossings(1);
        for (int i = 0; i < 14; i++) {
            y.rower(3, 2000, -1);
        }
        Check.due("a fourteenth", 99999 / 14, y.shares(0, 99999, 13));
        Check.due("the rest", 99999 % 14, y.shares(0, 99999, -1));
        Check.due("13 coins", 0, y.shares(0, 13, 0));
        Check.due("13 coins, the guild's", 13, y.shares(0, 13, -1));
        Check.due("14 coins", 1, y.shares(0, 14, 0));
        Check.due("14 coins, the guild's", 0, y.shares(0, 14, -1));
        StandingUp z = Check.withCrossings(1);
        z.rower(5, 9000, -1);
        Check.due("all are one's", 99999, z.shares(0, 99999, 0));
        Check.due("none is the guild's", 0, z.shares(0, 99999, -1));
    }

    /** A CROSSING without ROWERS: all is the guild's. */
    private static void sharesOfNobody() {
        StandingUp x = Check.withCrossings(2);
        Check.due("nothing", 0, x.shares(0, 0, -1));
        Check.due("all", 99999, x.shares(0, 99999, -1));
        x.rower(4, 2001, -1);
        Check.due("a stand-in of another one has none here", 99999, x.shares(0, 99999, -1));
        Check.due("but all there", 0, x.shares(1, 99999, -1));
        x.ill(0, 1);
        Check.due("be it ill", 99999, x.shares(1, 99999, 0));
    }

    /** Promise 23: "of a ROWER of the CROSSING, of the guild (NONE). BAD." */
    private static void sharesOfRowersOfTheCrossing() {
        StandingUp x = Check.withCrossings(2);
        x.rower(0, 2000, -1);
        x.rower(4, 2001, -1);
        int[] crossings = {FAR_BELOW, -1, 2, 7, FAR};
        for (int crossing : crossings) {
            for (int rower = -1; rower < 2; rower++) {
                Check.due("crossing " + crossing, -2, x.shares(crossing, 5, rower));
            }
        }
        Check.due("its own", 5, x.shares(0, 5, 0));
        Check.due("another one's", -2, x.shares(0, 5, 1));
        Check.due("another one's", -2, x.shares(1, 5, 0));
        int[] rowers = {FAR_BELOW, -2, 2, 13, 14, FAR};
        for (int rower : rowers) {
            Check.due("rower " + rower, -2, x.shares(0, 5, rower));
        }
    }

    /** Promise 23: "(coins 0 .. 99999)" */
    private static void coinsOfShares() {
        StandingUp x = Check.withCrossings(1);
        x.rower(0, 2000, -1);
        int[] wrong = {FAR_BELOW, -1, 100000, FAR};
        for (int coins : wrong) {
            Check.due("coins " + coins, -2, x.shares(0, coins, 0));
            Check.due("coins " + coins, -2, x.shares(0, coins, -1));
        }
        Check.due("coins 0", 0, x.shares(0, 0, 0));
        Check.due("coins 99999", 99999, x.shares(0, 99999, 0));
    }

    /** "takes so many of a hundred of its HEADS (0 .. 100)"; promise 24: "BAD." */
    private static void hundredths0To100() {
        StandingUp x = Check.withCrossings(1);
        x.set(20, 100);
        int[] wrong = {FAR_BELOW, -1, 101, FAR};
        for (int hundredths : wrong) {
            Check.due("hundredths " + hundredths, -2, x.bridge(0, hundredths));
        }
        for (int hundredths = 0; hundredths <= 100; hundredths++) {
            Check.due("hundredths " + hundredths, 100 - hundredths, x.bridge(0, hundredths));
        }
        int[] crossings = {FAR_BELOW, -1, 1, 7, FAR};
        for (int crossing : crossings) {
            Check.due("crossing " + crossing, -2, x.bridge(crossing, 50));
        }
    }

    /** "HEADS that are left (cut)" */
    private static void headsLeftAreCut() {
        StandingUp x = Check.withCrossings(1);
        int[] heads = {0, 1, 1, 1, 2, 3, 5, 999, 999, 999, 999};
        int[] hundredths = {50, 0, 1, 100, 50, 50, 33, 0, 1, 99, 100};
        int[] due = {0, 1, 0, 0, 1, 1, 3, 999, 989, 9, 0};
        for (int i = 0; i < heads.length; i++) {
            x.set(20, heads[i]);
            Check.due(heads[i] + " less " + hundredths[i], due[i], x.bridge(0, hundredths[i]));
            Check.due("the heads stay", heads[i], x.bridge(0, 0));
        }
    }

    /** Promise 26: "STATE: there is none." */
    private static void backWithoutAnImage() {
        StandingUp x = Check.withCrossings(1);
        x.rower(0, 2000, -1);
        x.set(0, 5);
        Check.due("back", -3, x.back());
        Check.due("back again", -3, x.back());
        Check.due("tide stays", 5, x.set(0, 5));
        x.image();
        Check.due("back", 1, x.back());
        Check.due("another object has none", -3, new StandingUp().back());
    }

    /** "AN IMAGE keeps TIDE, WASH, which CROSSINGS are open, HEADS, which ROWERS are ILL, how many turns, THE RULE, PATHS" */
    private static void imageKeepsAll() {
        StandingUp x = Check.withCrossings(7);
        for (int i = 0; i < 14; i++) {
            x.rower(i % 6, 2000 + 50 * (i % 2) + i % 7, -1);
        }
        Check.text(x, "load 1;price 2;turn 3;");
        // all as at first, and all another way
        for (int turn = 0; turn < 2; turn++) {
            Check.due("image", 14, x.image());
            int old = turn, now = 1 - turn;
            for (int c = 0; c < 7; c++) {
                Check.due("open", 1 - old, x.set(10 + c, 1 - now));
                Check.due("heads", 999 * old, x.set(20 + c, 999 * now));
            }
            for (int r = 0; r < 14; r++) {
                Check.due("ill", old, x.ill(r, now));
            }
            x.set(0, 9 * now);
            x.set(1, 9 * now);
            Check.due("rule", old, x.force(now));
            for (int p = 1; p < 10; p++) {
                Check.due("path", 99 * old, x.path(p, 99 * now));
            }
            for (int times = 0; times < 2; times++) {
                Check.due("back", 14, x.back());
                Check.due("tide", 9 * old, x.set(0, 5));
                Check.due("wash", 9 * old, x.set(1, 5));
                Check.due("open ones", 7 * now, x.count(2));
                Check.due("ill ones", 14 * old, x.count(3));
                Check.due("the rule", old, x.count(7));
                Check.due("heads", 999 * old, x.bridge(0, 0));
                Check.due("heads", 999 * old, x.bridge(6, 0));
                Check.due("path", 99 * old, x.path(9, 1));
                Check.due("path", 99 * old, x.path(10, 1));
            }
            x.back();
            // for the second turn: all another way, without an image
            for (int c = 0; c < 7 && turn == 0; c++) {
                x.set(10 + c, 0);
                x.set(20 + c, 999);
            }
            for (int r = 0; r < 14 && turn == 0; r++) {
                x.ill(r, 1);
            }
            for (int p = 1; p < 10 && turn == 0; p++) {
                x.path(p, 99);
            }
            x.set(0, 9);
            x.set(1, 9);
            x.force(1);
        }
        StandingUp y = Check.withCrossings(1);
        y.rower(0, 2000, -1);
        y.rower(0, 2000, -1);
        y.rowed(0, 9);
        y.image();
        y.rowed(0, 9);
        y.rowed(0, 9);
        Check.due("turns", 6, y.count(4));
        y.back();
        Check.due("turns", 2, y.count(4));
    }

    /** "(CROSSINGS, ROWERS that came since stay as they are)" */
    private static void cameSince() {
        StandingUp x = new StandingUp();
        Check.due("image of nothing", 0, x.image());
        for (int c = 0; c < 7; c++) {
            x.crossing(5, 12);
            x.set(10 + c, 0);
            x.set(20 + c, c);
        }
        for (int r = 0; r < 14; r++) {
            x.rower(0, 2000, r - 1);
            x.ill(r, 1);
        }
        x.ill(12, 0);
        x.ill(13, 0);
        Check.due("rowed", 20 * 12 + 13, x.rowed(0, 9));
        Check.due("back", 14, x.back());
        Check.due("crossings stay", 7, x.count(0));
        Check.due("rowers stay", 14, x.count(1));
        Check.due("shut stays", 0, x.count(2));
        Check.due("ill stays", 12, x.count(3));
        Check.due("turns stay", 2, x.count(4));
        for (int c = 0; c < 7; c++) {
            Check.due("heads stay", c, x.bridge(c, 0));
        }
        for (int r = 0; r < 14; r++) {
            Check.due("fathers stay", r - 1, x.told(r, 0, 4));
        }
    }

    /** What AN IMAGE doesn't keep stays: TEXTS, THE TAPE, SHEETS. */
    private static void imageOfNothing() {
        StandingUp x = Check.withCrossings(1);
        x.image();
        Check.due("text", 1, Check.text(x, "load 1;price 2;turn 3;"));
        Check.feed(x, "load");
        Check.row(x, 0, 1, -1, -1);
        Check.due("back", 0, x.back());
        Check.due("texts stay", 2, x.count(5));
        Check.due("the tape stays", 4, x.count(6));
        Check.due("a sheet stays", -1, x.judge(0, 0));
        Check.due("its text may be forced", 0, x.force(1));
        Check.due("back", 0, x.back());
        Check.due("the rule of the image", 0, x.count(7));
    }

    /** Promise 25: "AN IMAGE is kept": the last one. */
    private static void lastImage() {
        StandingUp x = Check.withCrossings(1);
        for (int tide = 0; tide < 10; tide++) {
            x.set(0, tide);
            Check.due("image", tide, x.image());
            x.rower(0, 2000, -1);
            x.set(0, 0);
            Check.due("back", tide + 1, x.back());
            Check.due("the tide of the last image", tide, x.set(0, 0));
        }
    }

    /** Promise 27: "0 CROSSINGS, 1 ROWERS, 2 open ones, 3 ILL ones, 4 turns in all, 5 TEXTS, 6 bytes of THE TAPE, 7 THE RULE" */
    private static void countOfEach() {
        StandingUp x = new StandingUp();
        counts(x, 0, 0, 0, 0, 0, 1, 0, 0);
        x.crossing(1, 12);
        counts(x, 1, 0, 1, 0, 0, 1, 0, 0);
        x.rower(0, 2000, -1);
        counts(x, 1, 1, 1, 0, 0, 1, 0, 0);
        x.ill(0, 1);
        counts(x, 1, 1, 1, 1, 0, 1, 0, 0);
        x.rower(0, 2000, -1);
        x.rower(0, 2000, -1);
        x.rowed(0, 9);
        counts(x, 1, 3, 1, 1, 2, 1, 0, 0);
        x.set(10, 0);
        counts(x, 1, 3, 0, 1, 2, 1, 0, 0);
        Check.feed(x, "load 1;price 1;turn 1;");
        counts(x, 1, 3, 0, 1, 2, 1, 22, 0);
        x.text();
        counts(x, 1, 3, 0, 1, 2, 2, 0, 0);
        x.force(1);
        counts(x, 1, 3, 0, 1, 2, 2, 0, 1);
    }

    private static void counts(StandingUp x, int... due) {
        for (int what = 0; what < 8; what++) {
            Check.due("count " + what, due[what], x.count(what));
        }
    }

    /** Promise 27: "BAD." */
    private static void countNoneSuch() {
        int[] wrong = {FAR_BELOW, -1, 8, 9, FAR};
        for (int what : wrong) {
            Check.due("count " + what, -2, new StandingUp().count(what));
            Check.due("count " + what, -2, Check.withCrossings(7).count(what));
        }
    }
}
