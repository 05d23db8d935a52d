import java.util.Arrays;

/** Terms 2 (WAITS, TURNS, HEIR) and promises 12 to 16: each sentence that names a bound, and what lies on both sides of it. */
final class BoundsOfWaitsTest {
    private static final int FAR = Integer.MAX_VALUE, FAR_BELOW = Integer.MIN_VALUE;

    public static void main(String[] args) {
        zeroToTwentyInAMinute();
        oneTo24Minutes();
        oneTo9Minutes();
        oneTo14AtOnce();
        whatIsAsked();
        waitsOfAMissingSheet();
        thereAtMinute0();
        thoseOfThatMinuteToo();
        nobodyWaits();
        staysTillTheNext();
        lastMinute();
        behindTheLastMinute();
        bitsUpToTheLastToldMinute();
        theLeastAsBits();
        mostOfAll();
        fewerThanTwo();
        theTwoWithTheGreatestTurn();
        turnsFarApart();
        ofLikeOnesTheLeast();
        standInsOfAny();
        turnRefusals();
        rowedHasOneMore();
        rowOf1To16();
        hoursFrom6On();
        nothingChanges();
        judgeRefusals();
        rules1To3();
        eldestSon();
        sonOrGrandson();
        mostTurns();
        Check.end();
    }

    private static void waits(int[] row, int t, int most, int least, int minutes) {
        StandingUp x = new StandingUp();
        Check.row(x, 0, 2, row);
        Check.due("least of " + row.length, least, x.waits(0, t, most, 0));
        Check.due("minutes of " + row.length, minutes, x.waits(0, t, most, 1));
    }

    private static int[] row(int... items) {
        return items;
    }

    /** A row that is 0 but for one minute. */
    private static int[] one(int size, int minute, int many) {
        int[] row = new int[size];
        row[minute] = many;
        return row;
    }

    /** "how many come at one landing in each MINUTE (0 .. 20 ..)"; promise 12: "-11; BAD: .. a number." */
    private static void zeroToTwentyInAMinute() {
        int[] wrong = {FAR_BELOW, -1, 21, 22, 256, 65536, FAR};
        for (int minute = 0; minute < 3; minute++) {
            for (int v : wrong) {
                waits(one(3, minute, v), 1, 1, -2, -2);
            }
            waits(one(3, minute, 0), 1, 14, 0, 0);
            waits(one(3, minute, 1), 1, 14, 0, 1 << minute);
            waits(one(3, minute, 20), 1, 14, 12, minute == 0 ? 5 : 1 << minute);
        }
        StandingUp x = new StandingUp();
        Check.row(x, 0, 0, 20);
        Check.due("a byte of 20", 12, x.waits(0, 1, 14, 0));
        x.cell(0, 0, 256 + 1);
        Check.due("a byte of 257 is 1", 0, x.waits(0, 1, 14, 0));
        x.cell(0, 0, 255);
        Check.due("a byte of 255 is below 0", -2, x.waits(0, 1, 14, 0));
    }

    /** "1 to 24 MINUTES"; promise 12: "BAD: its size" */
    private static void oneTo24Minutes() {
        for (int size = 0; size <= 40; size++) {
            StandingUp x = new StandingUp();
            for (int sort = 0; sort < 3; sort++) {
                x.sheet(0, sort, size);
                Check.due("size " + size, size >= 1 && size <= 24 ? 0 : -2, x.waits(0, 1, 1, 0));
                x.cell(0, size - 1, 2);
                Check.due("size " + size, size >= 1 && size <= 24 ? 2 : -2, x.waits(0, 1, 1, 0));
                Check.due("size " + size, size >= 1 && size <= 24 ? 1 << size - 1 : -2, x.waits(0, 1, 1, 1));
            }
        }
        // a number that is none such does not matter behind the row
        StandingUp x = new StandingUp();
        Check.row(x, 0, 2, 1, 99);
        x.sheet(0, 2, 1);
        Check.due("an earlier row is gone", 0, x.waits(0, 1, 1, 0));
    }

    /** "a boat takes t MINUTES (1 .. 9) there and t back" */
    private static void oneTo9Minutes() {
        int[] wrong = {FAR_BELOW, -1, 0, 10, FAR};
        for (int t : wrong) {
            waits(row(2), t, 1, -2, -2);
        }
        for (int t = 1; t <= 9; t++) {
            waits(row(2), t, 1, 2 * t, 1);
            // back in just the minute of the last one, or a minute behind it
            int[] row = new int[2 * t + 1];
            row[0] = 20;
            row[2 * t] = 1;
            waits(row, t, 14, 12 * t, 1 | 1 << 2 * t);
            row = new int[2 * t];
            row[0] = 14;
            row[2 * t - 1] += 1;
            waits(row, t, 14, 1, 1);
        }
    }

    /** "so many (1 .. 14) at once" */
    private static void oneTo14AtOnce() {
        int[] wrong = {FAR_BELOW, -1, 0, 15, FAR};
        for (int most : wrong) {
            waits(row(2), 1, most, -2, -2);
        }
        for (int most = 1; most <= 14; most++) {
            waits(row(most), 1, most, 0, 1);
            waits(row(most + 1), 1, most, 2, 1);
            waits(row(most, most), 1, most, most, 1);
        }
    }

    /** Promise 12: "LEAST (what 0), MINUTES (1). BAD: SHEET, t, most, what" */
    private static void whatIsAsked() {
        StandingUp x = new StandingUp();
        Check.row(x, 3, 0, 3);
        int[] wrong = {FAR_BELOW, -1, 2, FAR};
        for (int what : wrong) {
            Check.due("what " + what, -2, x.waits(3, 1, 1, what));
        }
        int[] sheets = {FAR_BELOW, -1, 4, FAR};
        for (int sheet : sheets) {
            Check.due("sheet " + sheet, -2, x.waits(sheet, 1, 1, 0));
        }
        Check.due("least", 6, x.waits(3, 1, 1, 0));
        Check.due("minutes", 1, x.waits(3, 1, 1, 1));
    }

    /** Promise 12: BAD is looked at ahead of -11, -11 ahead of the size. */
    private static void waitsOfAMissingSheet() {
        StandingUp x = new StandingUp();
        for (int sheet = 0; sheet < 4; sheet++) {
            Check.due("missing", -11, x.waits(sheet, 1, 1, 0));
            Check.due("missing", -11, x.waits(sheet, 9, 14, 1));
            Check.due("t first", -2, x.waits(sheet, 0, 1, 0));
            Check.due("t first", -2, x.waits(sheet, 10, 1, 0));
            Check.due("most first", -2, x.waits(sheet, 1, 0, 0));
            Check.due("most first", -2, x.waits(sheet, 1, 15, 0));
            Check.due("what first", -2, x.waits(sheet, 1, 1, -1));
            Check.due("what first", -2, x.waits(sheet, 1, 1, 2));
            x.sheet(sheet, 0, 0);
            Check.due("empty", -2, x.waits(sheet, 1, 1, 0));
            x.sheet(sheet, -1, 5);
            Check.due("missing again", -11, x.waits(sheet, 1, 1, 0));
        }
    }

    /** "at MINUTE 0 it is there" */
    private static void thereAtMinute0() {
        waits(row(1), 9, 1, 0, 1);
        waits(row(14, 0), 9, 14, 0, 1);
        waits(row(1, 0, 0), 9, 1, 0, 1);
    }

    /** "somebody waits (those of that MINUTE, too)" */
    private static void thoseOfThatMinuteToo() {
        waits(row(0, 3, 0), 9, 3, 0, 2);
        waits(row(0, 0, 0, 5), 9, 5, 0, 8);
        waits(row(2, 0, 2), 1, 2, 0, 5);
    }

    /** It puts off only in a MINUTE in which "somebody waits"; "till nobody waits" */
    private static void nobodyWaits() {
        waits(row(0), 1, 1, 0, 0);
        waits(new int[24], 9, 1, 0, 0);
        waits(row(5, 0, 0, 0), 1, 5, 0, 1);
        waits(row(0, 0, 5, 0, 0), 1, 5, 0, 4);
    }

    /** "it may put off with all who wait, as many as it may take, or stay till the next" */
    private static void staysTillTheNext() {
        waits(row(1, 9), 9, 14, 1, 2);
        waits(row(1, 0, 0, 0, 20), 2, 14, 24, 17);
        waits(row(1, 0, 0, 13), 2, 14, 3, 8);
        waits(row(6, 0, 0, 13), 2, 14, 13, 1);
        // as many as it may take go, not fewer
        waits(row(3, 3), 9, 3, 3 * 17, 1);
    }

    /** "from the last MINUTE on it puts off as soon as it is there" */
    private static void lastMinute() {
        waits(row(2), 9, 1, 18, 1);
        waits(row(0, 2), 9, 1, 18, 2);
        waits(row(0, 0, 5), 3, 14, 0, 4);
        // in the one ahead of it, it may stay
        waits(row(0, 1, 9), 9, 14, 1, 4);
    }

    /** Behind the last MINUTE: "till nobody waits", a trip for each boat. */
    private static void behindTheLastMinute() {
        waits(row(20), 9, 1, 18 * 190, 1);
        waits(row(20), 9, 2, 18 * 90, 1);
        waits(row(20), 1, 7, 2 * (13 + 6), 1);
        waits(row(20), 1, 10, 2 * 10, 1);
        waits(row(14), 9, 14, 0, 1);
        waits(row(15), 9, 14, 18, 1);
        waits(row(5, 20), 9, 14, 5 + 18 * 11, 2);
    }

    /** "the MINUTES (bits) up to the last told one in which it puts off" */
    private static void bitsUpToTheLastToldMinute() {
        waits(row(20, 0), 1, 10, 20, 1);
        waits(row(20, 0, 0), 1, 10, 20, 5);
        waits(one(24, 23, 20), 1, 1, 380, 1 << 23);
        waits(one(24, 23, 1), 9, 1, 0, 1 << 23);
        int[] full = new int[24];
        Arrays.fill(full, 1);
        waits(full, 1, 1, 276, 0x555555);
    }

    /** "of like ones the least as bits" */
    private static void theLeastAsBits() {
        // in 0 or in 1: 1 waits a minute either way
        waits(row(1, 1), 1, 2, 1, 1);
        waits(row(1, 1), 9, 14, 1, 2);
        waits(row(2, 2), 1, 4, 2, 1);
        waits(row(1, 1, 0, 0), 1, 2, 1, 2);
        waits(row(0, 1, 1, 0, 0), 1, 2, 1, 4);
        waits(row(0, 0, 1, 1), 1, 14, 1, 4);
    }

    /** The most that may come, and the longest boats: nothing runs over. */
    private static void mostOfAll() {
        int[] full = new int[24];
        Arrays.fill(full, 20);
        // boats at 0 and 18, then every 18 minutes till 480 are gone: all that wait, minute by minute
        long least = 0;
        int waiting = 0;
        for (int minute = 0; minute < 24 || waiting > 0; minute++) {
            waiting += minute < 24 ? 20 : 0;
            waiting -= minute % 18 == 0 ? 1 : 0;
            least += waiting;
        }
        waits(full, 9, 1, (int) least, 1 | 1 << 18);
    }

    // ---- turns

    private static StandingUp withRowers(int n) {
        StandingUp x = Check.withCrossings(2);
        for (int i = 0; i < n; i++) {
            x.rower(0, 2000 + 100 * i, -1);
        }
        return x;
    }

    private static void rule(StandingUp x, String turn) {
        Check.due(turn, 0, Check.text(x, "load 1;price 1;turn " + turn + ";") < 0 ? 1 : 0);
        x.force(x.count(5) - 1);
    }

    /** "NONE, if there are fewer" */
    private static void fewerThanTwo() {
        Check.due("nobody", -1, withRowers(0).turn(0, 9));
        Check.due("one", -1, withRowers(1).turn(0, 9));
        Check.due("two", 1, withRowers(2).turn(0, 9));
        StandingUp x = withRowers(3);
        x.ill(1, 1);
        Check.due("two of three", 2, x.turn(0, 9));
        x.ill(0, 1);
        Check.due("one of three", -1, x.turn(0, 9));
        Check.due("nobody rows", -1, x.rowed(0, 9));
        Check.due("nobody rowed", 0, x.count(4));
        x.ill(2, 1);
        Check.due("none of three", -1, x.turn(0, 9));
        StandingUp y = withRowers(2);
        Check.due("ahead of 6", -1, y.turn(0, 5));
        Check.due("from 6 on", 1, y.turn(0, 6));
        Check.due("ahead of 22", 1, y.turn(0, 21));
        Check.due("22", -1, y.turn(0, 22));
    }

    /** "the two with the greatest turn" */
    private static void theTwoWithTheGreatestTurn() {
        StandingUp x = withRowers(14);
        rule(x, "age");
        Check.due("the two last ones", 20 * 12 + 13, x.turn(0, 9));
        rule(x, "-age");
        Check.due("the two first ones", 1, x.turn(0, 9));
        rule(x, "(age=33)*2+(age=20)");
        Check.due("the lesser one ahead", 13, x.turn(0, 9));
        rule(x, "(age=33)+(age=20)*2");
        Check.due("the lesser one ahead, too", 13, x.turn(0, 9));
        rule(x, "0-(age=20)-(age=21)*2");
        Check.due("two that are least of all stand back", 2 * 20 + 3, x.turn(0, 9));
    }

    /** Turns are ints: the greatest and the least of them stand in their order. */
    private static void turnsFarApart() {
        StandingUp x = withRowers(3);
        rule(x, "8192*8192*32-(age=21)-(age=22)*2");
        // 0: the least int; 1: the greatest; 2: one less
        Check.due("the least int", FAR_BELOW, x.told(0, 9, 10));
        Check.due("the greatest int", FAR, x.told(1, 9, 10));
        Check.due("1 and 2", 22, x.turn(0, 9));
        rule(x, "8192*8192*32");
        Check.due("all of them the least int", 1, x.turn(0, 9));
        rule(x, "8192*8192*32+(age=22)");
        Check.due("one is more", 2, x.turn(0, 9));
        rule(x, "8192*8192*32-1");
        Check.due("all of them the greatest int", 1, x.turn(0, 9));
    }

    /** "of like ones the least" */
    private static void ofLikeOnesTheLeast() {
        StandingUp x = withRowers(5);
        Check.due("all alike", 1, x.turn(0, 9));
        rule(x, "(age=22)");
        Check.due("one ahead of like ones", 2, x.turn(0, 9));
        rule(x, "(age=21)+(age=22)+(age=24)");
        Check.due("three alike", 22, x.turn(0, 9));
        rule(x, "(age=24)*2+(age=22)+(age=23)");
        Check.due("one ahead of two alike", 2 * 20 + 4, x.turn(0, 9));
    }

    /** "(of that CROSSING; a STAND-IN of any)" */
    private static void standInsOfAny() {
        StandingUp x = Check.withCrossings(2);
        x.rower(0, 2001, -1);
        x.rower(4, 2001, -1);
        Check.due("a stand-in alone", -1, x.turn(0, 9));
        x.rower(1, 2000, -1);
        Check.due("a stand-in of another one", 20 + 2, x.turn(0, 9));
        Check.due("at its own", 1, x.turn(1, 9));
        Check.due("alone by night", -1, x.turn(0, 22));
        x.rower(4, 2000, -1);
        Check.due("two by night", 20 + 3, x.turn(0, 22));
        Check.due("two by night", 20 + 3, x.turn(1, 23));
        Check.due("not behind midnight", -1, x.turn(0, 0));
        Check.due("not ahead of 6", -1, x.turn(0, 5));
        x.ill(3, 1);
        Check.due("not ill", -1, x.turn(1, 23));
    }

    /** Promises 13 and 14: "BAD; NONE." */
    private static void turnRefusals() {
        StandingUp x = withRowers(2);
        int[] crossings = {FAR_BELOW, -1, 2, 7, FAR};
        int[] hours = {FAR_BELOW, -1, 24, FAR};
        for (int crossing : crossings) {
            Check.due("turn of " + crossing, -2, x.turn(crossing, 9));
            Check.due("rowed of " + crossing, -2, x.rowed(crossing, 9));
        }
        for (int hour : hours) {
            for (int crossing = 0; crossing < 2; crossing++) {
                Check.due("turn at " + hour, -2, x.turn(crossing, hour));
                Check.due("rowed at " + hour, -2, x.rowed(crossing, hour));
            }
        }
        Check.due("turn at 0", -1, x.turn(0, 0));
        Check.due("turn at 23", -1, x.turn(0, 23));
        Check.due("nobody rowed", 0, x.count(4));
    }

    /** "ROWED: the TURN is rowed: each has one more." */
    private static void rowedHasOneMore() {
        StandingUp x = withRowers(3);
        Check.due("turn, which rows nobody", 1, x.turn(0, 9));
        Check.due("nobody rowed", 0, x.count(4));
        int[] due = {1, 2, 22, 1, 2, 22, 1};
        for (int i = 0; i < due.length; i++) {
            Check.due("the turn", due[i], x.turn(0, 9));
            Check.due("is rowed", due[i], x.rowed(0, 9));
            Check.due("two more", 2 * i + 2, x.count(4));
        }
        Check.due("turns of 0", 5, x.told(0, 9, 6));
        Check.due("turns of 1", 5, x.told(1, 9, 6));
        Check.due("turns of 2", 4, x.told(2, 9, 6));
    }

    /** Promise 15: "-11; BAD: its size isn't 1 .. 16" */
    private static void rowOf1To16() {
        for (int size = 0; size <= 40; size++) {
            StandingUp x = withRowers(2);
            for (int sort = 0; sort < 3; sort++) {
                x.sheet(0, sort, size);
                for (int i = 0; i < size; i++) {
                    x.cell(0, i, 1);
                }
                Check.due("row of " + size, size >= 1 && size <= 16 ? -1 : -2, x.judge(0, 0));
                x.cell(0, size - 1, 0);
                Check.due("row of " + size, size >= 1 && size <= 16 ? 5 + size : -2, x.judge(0, 0));
            }
        }
    }

    /** "for HOURS 6, 7, ..: .. the first HOUR of which it tells another one than the TURN is" */
    private static void hoursFrom6On() {
        StandingUp x = Check.withCrossings(1);
        x.rower(2, 6000, -1);
        x.rower(2, 6000, -1);
        Check.row(x, 0, 1, 1, -1, 1, -1, 1, -1, 1, -1, 1, -1, 1, -1, 1, -1, 1, -1);
        Check.due("even hours", -1, x.judge(0, 0));
        int[] other = {FAR_BELOW, -3, -2, 0, 2, 20, FAR};
        Check.row(x, 1, 2, 1, -1, 1);
        for (int told : other) {
            for (int i = 2; i >= 0; i--) {
                x.cell(1, i, told);
                Check.due("told " + told, 6 + i, x.judge(0, 1));
            }
            Check.row(x, 1, 2, 1, -1, 1);
        }
        Check.due("the lesser one stands first", -1, x.judge(0, 1));
        x.cell(1, 0, 20);
        x.cell(1, 2, 0);
        Check.due("the first of two", 6, x.judge(0, 1));
        // the hour tells who is due
        StandingUp y = withRowers(3);
        rule(y, "(hour=6)*age+(hour=21)*(0-age)-(hour=7)*(age=21)");
        Check.row(y, 0, 2, 22, 2, 1);
        Check.due("6, 7, 8", -1, y.judge(0, 0));
        Check.row(y, 0, 2, 22, 2, 1, 1, 1, 1, 1, 1, 1, 1, 1, 1, 1, 1, 1, 1);
        Check.due("up to 21", -1, y.judge(0, 0));
        rule(y, "(hour=21)*age");
        y.cell(0, 0, 1);
        y.cell(0, 1, 1);
        Check.due("at 21", 21, y.judge(0, 0));
    }

    /** "(as all ahead of it are ROWED) .. Nothing changes." */
    private static void nothingChanges() {
        StandingUp x = withRowers(3);
        Check.row(x, 0, 1, 1, 2, 22, 1);
        for (int i = 0; i < 3; i++) {
            Check.due("right", -1, x.judge(0, 0));
            Check.due("nothing changes", 0, x.count(4));
        }
        x.rowed(0, 9);
        Check.due("the first one is another now", 6, x.judge(0, 0));
        Check.row(x, 0, 1, 2, 22, 1, 1);
        for (int i = 0; i < 3; i++) {
            Check.due("wrong at 9", 9, x.judge(0, 0));
            Check.due("two turns", 2, x.count(4));
            Check.due("turns of 0", 1, x.told(0, 9, 6));
            Check.due("turns of 2", 0, x.told(2, 9, 6));
        }
    }

    /** Promise 15: "BAD: CROSSING, SHEET; -11; BAD: its size" */
    private static void judgeRefusals() {
        StandingUp x = withRowers(2);
        int[] crossings = {FAR_BELOW, -1, 2, FAR};
        int[] sheets = {FAR_BELOW, -1, 4, FAR};
        for (int crossing : crossings) {
            Check.due("crossing ahead of missing", -2, x.judge(crossing, 0));
        }
        for (int sheet : sheets) {
            Check.due("sheet " + sheet, -2, x.judge(0, sheet));
        }
        for (int sheet = 0; sheet < 4; sheet++) {
            Check.due("missing", -11, x.judge(0, sheet));
            x.sheet(sheet, 2, 0);
            Check.due("empty", -2, x.judge(0, sheet));
            x.sheet(sheet, 2, 17);
            Check.due("too long", -2, x.judge(0, sheet));
            x.sheet(sheet, -1, 0);
            Check.due("missing again", -11, x.judge(0, sheet));
        }
    }

    // ---- heirs

    /** "HEIR of a ROWER's seat by a RULE (1 .. 3)"; promise 16: "BAD; NONE." */
    private static void rules1To3() {
        StandingUp x = withRowers(1);
        int[] rules = {FAR_BELOW, -1, 0, 4, FAR};
        int[] rowers = {FAR_BELOW, -1, 1, 14, FAR};
        for (int rule : rules) {
            Check.due("rule " + rule, -2, x.heir(0, rule));
        }
        for (int rower : rowers) {
            for (int rule = 0; rule < 4; rule++) {
                Check.due("rower " + rower, -2, x.heir(rower, rule));
            }
        }
        for (int rule = 1; rule < 4; rule++) {
            Check.due("none by rule " + rule, -1, x.heir(0, rule));
        }
    }

    /** "1 the eldest son who is an HEIR or under it (by AGE; of like ones the least)" */
    private static void eldestSon() {
        for (int kind = 0; kind < 6; kind++) {
            StandingUp x = Check.withCrossings(2);
            x.rower(3, 9000, -1);
            x.rower(kind, 1401, 0);
            boolean heir = kind == 1 || kind == 3;
            Check.due("a son of kind " + kind, heir ? 1 : -1, x.heir(0, 1));
            x.rower(1, 1401, 0);
            Check.due("an heir as old", heir ? 1 : 2, x.heir(0, 1));
            x.rower(3, 1500, 0);
            Check.due("a year older", 3, x.heir(0, 1));
            x.rower(0, 9000, 0);
            x.rower(1, 9000, 1);
            x.rower(1, 9000, -1);
            Check.due("no rower, no grandson, nobody else's", 3, x.heir(0, 1));
            x.ill(3, 1);
            Check.due("an ill one, too", 3, x.heir(0, 1));
        }
    }

    /** "2 the first (by numbers) of all whose FATHER it is, or whose FATHER's FATHER, that isn't ILL" */
    private static void sonOrGrandson() {
        StandingUp x = withRowers(2);
        x.rower(0, 2001, 0);
        x.rower(5, 9000, 2);
        x.rower(4, 9000, 3);
        x.rower(0, 9090, 0);
        int[] due = {2, 3, 5, -1};
        int[] ill = {2, 3, 5};
        for (int i = 0; i < due.length; i++) {
            Check.due("of 0", due[i], x.heir(0, 2));
            Check.due("of 1", -1, x.heir(1, 2));
            if (i < ill.length) {
                x.ill(ill[i], 1);
            }
        }
        Check.due("of the ill son", 4, x.heir(2, 2));
        Check.due("of the ill grandson", 4, x.heir(3, 2));
        Check.due("of the last one", -1, x.heir(4, 2));
        x.ill(3, 0);
        Check.due("well again", 3, x.heir(0, 2));
    }

    /** "3 of all of its CROSSING (not itself) the one with the most turns; of like ones the eldest, then the least; NONE" */
    private static void mostTurns() {
        StandingUp x = Check.withCrossings(2);
        x.rower(0, 4000, -1);
        x.rower(4, 9001, -1);
        Check.due("alone", -1, x.heir(0, 3));
        Check.due("alone at the other one", -1, x.heir(1, 3));
        x.rower(0, 3000, -1);
        Check.due("not itself", 2, x.heir(0, 3));
        Check.due("but the other one", 0, x.heir(2, 3));
        x.rower(0, 3000, -1);
        Check.due("as old: the least", 2, x.heir(0, 3));
        x.rower(0, 3100, -1);
        Check.due("a year older", 4, x.heir(0, 3));
        rule(x, "(age=30)");
        Check.due("rowed", 43, x.rowed(0, 9));
        Check.due("most turns", 2, x.heir(0, 3));
        Check.due("most turns, but itself", 3, x.heir(2, 3));
        x.ill(2, 1);
        Check.due("an ill one, too", 2, x.heir(0, 3));
        rule(x, "(age=31)+(age=40)");
        Check.due("rowed", 4, x.rowed(0, 9));
        Check.due("as many turns: the eldest", 4, x.heir(0, 3));
        Check.due("as many turns: the eldest", 0, x.heir(4, 3));
    }
}
