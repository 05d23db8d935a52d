import java.util.Random;

/** Promises 22 to 27: box, shares, bridge, image, back, count. */
final class CoinsTest {
    public static void main(String[] args) {
        box();
        boxRefusals();
        boxAtRandom();
        shares();
        sharesRefusals();
        bridge();
        imageAndBack();
        whatCameSince();
        imageTwice();
        count();
        Check.end();
    }

    private static void box() {
        StandingUp x = new StandingUp();
        Check.due("five heads", 1, x.box(5005, 0, 26, 9));
        Check.due("off by more", 0, x.box(5007, 0, 26, 9));
        Check.due("six heads", 0, x.box(5007, 1, 26, 9));
        Check.due("ten about", 3, x.box(10010, 9, 20, 3));
        Check.due("nobody, nothing", 1, x.box(0, 0, 0, 0));
        Check.due("nobody, a coin", 0, x.box(0, 0, 1, 0));
        Check.due("all", 1, x.box(198198, 0, 99 * 12, 0));
        Check.due("nearly all", 1, x.box(197198, 9, 99 * 12, 0));
        Check.due("told too unlike", 0, x.box(5008, 1, 26, 9));
        Check.due("just not too unlike", 1, x.box(4006, 1, 26, 9));
        Check.due("the first is off", 0, x.box(3006, 1, 26, 9));
        Check.due("the other one is off", 0, x.box(6003, 1, 26, 9));
        // prices of 0 and 99 at the bounds
        x.force(Check.text(x, "load 1;price 0-5;turn 1;"));
        Check.due("for nothing", 6, x.box(5005, 0, 0, 9));
        Check.due("for nothing, coins", 0, x.box(5005, 0, 1, 9));
        Check.due("for nothing, about", 5 + 6 + 7, x.box(5005, 1, 0, 9));
        x.force(Check.text(x, "load 1;price 100+heads;turn 1;"));
        Check.due("dearest", 6, x.box(5005, 0, 5 * 99, 9));
        Check.due("dearest, all", 1, x.box(198198, 0, 198 * 99, 9));
        x.force(Check.text(x, "load 1;price heads*50+tide*10+wash+hour+age*9+turns*9;turn 1;"));
        x.set(0, 2);
        x.set(1, 3);
        Check.due("locals of 96, strangers of 46", 1, x.box(3003, 0, 96 + 46 * 2, 23));
        Check.due("by hour", 1, x.box(3003, 0, 73 * 2 + 23, 0));
    }

    private static void boxRefusals() {
        StandingUp x = new StandingUp();
        int[] badHeads = {-1, 199, 999, 199000, 198199, 199198, 1000000, -5005, Integer.MIN_VALUE, Integer.MAX_VALUE};
        for (int heads : badHeads) {
            Check.due("box heads " + heads, -2, x.box(heads, 0, 0, 0));
        }
        int[] badOff = {-1, 10, Integer.MAX_VALUE};
        for (int off : badOff) {
            Check.due("box off", -2, x.box(0, off, 0, 0));
        }
        int[] badCoins = {-1, 100000, Integer.MAX_VALUE};
        for (int coins : badCoins) {
            Check.due("box coins", -2, x.box(0, 0, coins, 0));
        }
        int[] badHours = {-1, 24, Integer.MAX_VALUE};
        for (int hour : badHours) {
            Check.due("box hour", -2, x.box(0, 0, 0, hour));
        }
        Check.due("box bounds", 0, x.box(198198, 9, 99999, 23));
    }

    private static void boxAtRandom() {
        Random random = new Random(17);
        for (int run = 0; run < 150; run++) {
            StandingUp x = new StandingUp();
            int local = random.nextInt(4), stranger = random.nextInt(5);
            x.force(Check.text(x, "load 1;price " + stranger + "+heads*(" + local + "-" + stranger + ");turn 1;"));
            int one = random.nextInt(199);
            int other = Math.max(0, Math.min(198, one + random.nextInt(21) - 10));
            int off = random.nextInt(10);
            int coins = random.nextInt(3) == 0 ? 0 : random.nextInt(Math.max(1, one * Math.max(local, stranger)) + 2);
            int ways = 0;
            for (int l = 0; l < 100; l++) {
                for (int s = 0; s < 100; s++) {
                    boolean right = Math.abs(l + s - one) <= off && Math.abs(l + s - other) <= off;
                    ways += right && l * local + s * stranger == coins ? 1 : 0;
                }
            }
            Check.due("box at random", ways, x.box(1000 * one + other, off, coins, 5));
        }
    }

    private static void shares() {
        StandingUp x = Check.withCrossings(3);
        Check.due("nobody's", 100, x.shares(0, 100, -1));
        x.rower(0, 5000, -1);
        x.rower(1, 1500, 0);
        x.rower(4, 3000, 0);
        x.rower(4, 3001, 0);
        x.rower(3, 3001, 0);
        x.rower(5, 3001, 0);
        int[] due = {44, 33, 22};
        for (int i = 0; i < 3; i++) {
            Check.due("share", due[i], x.shares(0, 100, i));
        }
        Check.due("the guild's", 1, x.shares(0, 100, -1));
        int[] others = {99999 * 2 / 13, 99999 * 6 / 13, 99999 * 5 / 13};
        for (int i = 0; i < 3; i++) {
            Check.due("share", others[i], x.shares(1, 99999, 3 + i));
        }
        Check.due("the guild's", 99999 - others[0] - others[1] - others[2], x.shares(1, 99999, -1));
        Check.due("the third one's", 99999, x.shares(2, 99999, -1));
        Check.due("share of nothing", 0, x.shares(0, 0, 0));
        Check.due("guild's of nothing", 0, x.shares(0, 0, -1));
        x.ill(0, 1);
        Check.due("be it ill", 44, x.shares(0, 100, 0));
        Check.due("three coins", 1, x.shares(0, 3, 0));
        Check.due("three coins, the heir's", 1, x.shares(0, 3, 1));
        Check.due("three coins, the stand-in's", 0, x.shares(0, 3, 2));
        Check.due("three coins, the guild's", 1, x.shares(0, 3, -1));
    }

    private static void sharesRefusals() {
        StandingUp x = Check.withCrossings(2);
        x.rower(0, 5000, -1);
        x.rower(4, 5001, -1);
        int[] badCrossings = {-1, 2, Integer.MAX_VALUE};
        for (int crossing : badCrossings) {
            Check.due("shares crossing", -2, x.shares(crossing, 5, -1));
            Check.due("shares crossing", -2, x.shares(crossing, 5, 0));
        }
        Check.due("shares coins -1", -2, x.shares(0, -1, 0));
        Check.due("shares coins 100000", -2, x.shares(0, 100000, 0));
        Check.due("shares of another crossing's", -2, x.shares(0, 5, 1));
        Check.due("shares of another crossing's", -2, x.shares(1, 5, 0));
        Check.due("shares of none", -2, x.shares(0, 5, 2));
        Check.due("shares of -2", -2, x.shares(0, 5, -2));
        Check.due("shares of far", -2, x.shares(0, 5, Integer.MAX_VALUE));
    }

    private static void bridge() {
        StandingUp x = Check.withCrossings(2);
        Check.due("bridge without heads", 0, x.bridge(0, 50));
        x.set(20, 100);
        x.set(21, 999);
        Check.due("bridge 33", 67, x.bridge(0, 33));
        Check.due("bridge 0", 100, x.bridge(0, 0));
        Check.due("bridge 100", 0, x.bridge(0, 100));
        Check.due("bridge changes nothing", 100, x.bridge(0, 0));
        Check.due("bridge 1 of 999", 989, x.bridge(1, 1));
        x.set(20, 5);
        Check.due("bridge, cut", 3, x.bridge(0, 33));
        Check.due("bridge, cut", 0, x.bridge(0, 81));
        Check.due("bridge, not cut", 1, x.bridge(0, 80));
        Check.due("bridge -1", -2, x.bridge(0, -1));
        Check.due("bridge 101", -2, x.bridge(0, 101));
        Check.due("bridge of none", -2, x.bridge(2, 1));
        Check.due("bridge of -1", -2, x.bridge(-1, 1));
    }

    private static void imageAndBack() {
        StandingUp x = Check.withCrossings(2);
        x.rower(0, 2000, -1);
        x.rower(0, 3000, -1);
        Check.text(x, "load 2;price 3;turn 4;");
        Check.text(x, "load 5;price 6;turn 7;");
        x.set(0, 1);
        x.set(1, 2);
        x.set(11, 0);
        x.set(20, 30);
        x.ill(1, 0);
        x.rowed(0, 8);
        x.ill(1, 1);
        x.force(1);
        x.path(12, 3);
        Check.row(x, 0, 2, 77);
        Check.feed(x, "abc");
        Check.due("image", 2, x.image());
        Check.due("set", 1, x.set(0, 8));
        Check.due("set", 2, x.set(1, 9));
        Check.due("set", 0, x.set(11, 1));
        Check.due("set", 1, x.set(10, 0));
        Check.due("set", 30, x.set(20, 40));
        x.set(21, 50);
        x.ill(1, 0);
        x.rowed(0, 8);
        x.ill(0, 1);
        x.force(2);
        x.path(12, 4);
        x.path(34, 5);
        x.cell(0, 0, 78);
        Check.feed(x, "d");
        for (int times = 0; times < 2; times++) {
            Check.due("back", 2, x.back());
            Check.due("open ones", 1, x.count(2));
            Check.due("ill ones", 1, x.count(3));
            Check.due("turns", 2, x.count(4));
            Check.due("texts stay", 3, x.count(5));
            Check.due("the tape stays", 4, x.count(6));
            Check.due("the rule", 1, x.count(7));
            Check.due("tide", 1, x.set(0, 5));
            Check.due("wash", 2, x.set(1, 5));
            Check.due("open 0", 1, x.set(10, 0));
            Check.due("open 1", 0, x.set(11, 1));
            Check.due("heads 0", 30, x.set(20, 1));
            Check.due("heads 1", 0, x.set(21, 1));
            Check.due("well", 0, x.ill(0, 1));
            Check.due("ill", 1, x.ill(1, 0));
            Check.due("turns of 0", 1, x.told(0, 0, 6));
            Check.due("turns of 1", 1, x.told(1, 0, 6));
            Check.due("path", 3, x.path(12, 9));
            Check.due("path back", 9, x.path(21, 9));
            Check.due("no path", 0, x.path(34, 9));
            Check.due("force", 1, x.force(0));
        }
        Check.due("sheets stay", 1, x.copy(0, 0, 0, 0, 1));
        Check.due("sheets stay", 6, x.judge(0, 0));
    }

    private static void whatCameSince() {
        StandingUp x = Check.withCrossings(1);
        x.rower(0, 2000, -1);
        Check.due("image", 1, x.image());
        x.crossing(9, 23);
        x.rower(0, 3000, -1);
        x.rower(0, 3000, -1);
        x.set(11, 0);
        x.set(21, 7);
        x.set(20, 8);
        x.ill(1, 1);
        x.ill(0, 1);
        Check.due("back", 3, x.back());
        Check.due("crossings stay", 2, x.count(0));
        Check.due("rowers stay", 3, x.count(1));
        Check.due("ill stays", 1, x.ill(1, 0));
        Check.due("well again", 0, x.ill(0, 0));
        Check.due("heads again", 0, x.set(20, 0));
        Check.due("heads stay", 7, x.set(21, 7));
        Check.due("shut stays", 0, x.set(11, 0));
        Check.due("turn", 1, x.rowed(0, 9));
        Check.due("turn", 2, x.rowed(0, 9));
        x.back();
        Check.due("turns of 0", 0, x.told(0, 0, 6));
        Check.due("turns of the others", 2, x.told(1, 0, 6) + x.told(2, 0, 6));
    }

    private static void imageTwice() {
        StandingUp x = Check.withCrossings(1);
        Check.due("none", -3, x.back());
        Check.due("image", 0, x.image());
        x.set(0, 5);
        x.rower(0, 2000, -1);
        Check.due("image again", 1, x.image());
        x.set(0, 6);
        Check.due("back to the last", 1, x.back());
        Check.due("tide", 5, x.set(0, 5));
        Check.due("of a new object", -3, new StandingUp().back());
    }

    private static void count() {
        StandingUp x = Check.withCrossings(3);
        x.rower(0, 2000, -1);
        x.rower(0, 2000, -1);
        x.rower(0, 2000, -1);
        x.rower(0, 2000, -1);
        x.rowed(0, 9);
        x.rowed(0, 9);
        x.rowed(0, 9);
        x.set(11, 0);
        x.ill(2, 1);
        x.ill(3, 1);
        x.ill(0, 1);
        Check.text(x, "load 1;price 1;turn 1;");
        Check.text(x, "load 1;price 1;turn 1;");
        x.force(2);
        Check.feed(x, "load 1;price");
        int[] due = {3, 4, 2, 3, 6, 3, 12, 2};
        for (int what = 0; what < due.length; what++) {
            Check.due("count " + what, due[what], x.count(what));
        }
        int[] bad = {-1, 8, Integer.MIN_VALUE, Integer.MAX_VALUE};
        for (int what : bad) {
            Check.due("count " + what, -2, x.count(what));
        }
    }
}
