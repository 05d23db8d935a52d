/** Promises 13 to 16: turn, rowed, judge, heir. */
final class TurnsTest {
    public static void main(String[] args) {
        turn();
        turnByRule();
        standIns();
        turnRefusals();
        rowed();
        judge();
        judgeRefusals();
        eldestSon();
        firstOfBlood();
        mostTurns();
        heirRefusals();
        Check.end();
    }

    private static StandingUp withRowers(int n) {
        StandingUp x = Check.withCrossings(2);
        for (int i = 0; i < n; i++) {
            x.rower(0, 2000 + 100 * i, -1);
        }
        return x;
    }

    private static void turn() {
        StandingUp x = withRowers(3);
        Check.due("turn of like ones", 1, x.turn(0, 9));
        Check.due("turn changes nothing", 1, x.turn(0, 9));
        Check.due("no turns", 0, x.count(4));
        Check.due("turn of none", -1, x.turn(1, 9));
        x.rower(0, 2001, -1);
        Check.due("turn of one", -1, x.turn(1, 9));
        x.rower(0, 2001, -1);
        Check.due("turn of two", 3 * 20 + 4, x.turn(1, 9));
        Check.due("turn ahead of 6", -1, x.turn(0, 5));
        Check.due("turn at 6", 1, x.turn(0, 6));
        Check.due("turn at 21", 1, x.turn(0, 21));
        Check.due("turn at 22", -1, x.turn(0, 22));
        x.set(10, 0);
        Check.due("turn of a shut crossing", 1, x.turn(0, 9));
        x.ill(0, 1);
        Check.due("turn without the ill one", 22, x.turn(0, 9));
        x.ill(1, 1);
        Check.due("turn with one left", -1, x.turn(0, 9));
    }

    private static void turnByRule() {
        StandingUp x = withRowers(4);
        x.force(Check.text(x, "load 1;price 1;turn age;"));
        Check.due("the oldest", 2 * 20 + 3, x.turn(0, 9));
        x.force(Check.text(x, "load 1;price 1;turn -age;"));
        Check.due("the youngest", 1, x.turn(0, 9));
        x.force(Check.text(x, "load 1;price 1;turn(age=21)*2+(age=23);"));
        Check.due("1 and 3", 23, x.turn(0, 9));
        x.force(Check.text(x, "load 1;price 1;turn(age=22)+(age=23)*2-(hour=8)*age*5;"));
        Check.due("2 and 3", 43, x.turn(0, 9));
        Check.due("0 and 1", 1, x.turn(0, 8));
        x.force(Check.text(x, "load 1;price 1;turn(age=20)+(age=22)+(age=23);"));
        Check.due("0 and 2 of three alike", 2, x.turn(0, 9));
        StandingUp y = withRowers(4);
        y.force(Check.text(y, "load 1;price 1;turn(age=22)*2+(age=23)*3+(age=20)-9;"));
        Check.due("below 0", 43, y.turn(0, 9));
        y.force(Check.text(y, "load 1;price 1;turn(age=22);"));
        Check.due("one ahead, then the least", 2, y.turn(0, 9));
        y.force(Check.text(y, "load 1;price 1;turn(age=20)*5+(age=21)*3+(age=22)*4+(age=23)*4;"));
        Check.due("a second one that comes later", 2, y.turn(0, 9));
    }

    private static void standIns() {
        StandingUp x = Check.withCrossings(2);
        x.rower(4, 3001, -1);
        x.rower(0, 3000, -1);
        Check.due("a stand-in rows anywhere", 1, x.turn(0, 9));
        Check.due("nobody stands beside it", -1, x.turn(1, 9));
        x.rower(4, 3000, -1);
        Check.due("two stand-ins", 2, x.turn(1, 9));
        Check.due("two stand-ins by night", 2, x.turn(1, 23));
        Check.due("stand-ins by night", 2, x.turn(0, 22));
        Check.due("and none in the morning", -1, x.turn(0, 5));
        Check.due("rowed", 1, x.rowed(0, 9));
        Check.due("a stand-in's turn", 1, x.told(0, 0, 6));
    }

    private static void turnRefusals() {
        StandingUp x = withRowers(2);
        int[] badCrossings = {-1, 2, 7, Integer.MIN_VALUE, Integer.MAX_VALUE};
        for (int crossing : badCrossings) {
            Check.due("turn crossing", -2, x.turn(crossing, 9));
            Check.due("rowed crossing", -2, x.rowed(crossing, 9));
        }
        int[] badHours = {-1, 24, Integer.MIN_VALUE, Integer.MAX_VALUE};
        for (int hour : badHours) {
            Check.due("turn hour", -2, x.turn(0, hour));
            Check.due("rowed hour", -2, x.rowed(0, hour));
        }
        Check.due("turn hour 0", -1, x.turn(0, 0));
        Check.due("turn hour 23", -1, x.turn(0, 23));
        Check.due("rowed hour 0", -1, x.rowed(0, 0));
        Check.due("rowed hour 23", -1, x.rowed(0, 23));
        Check.due("nobody rowed", 0, x.count(4));
    }

    private static void rowed() {
        StandingUp x = withRowers(3);
        int[] due = {1, 2, 22, 1, 2, 22};
        for (int i = 0; i < due.length; i++) {
            Check.due("rowed " + i, due[i], x.rowed(0, 9));
            Check.due("turns in all", 2 * i + 2, x.count(4));
        }
        for (int i = 0; i < 3; i++) {
            Check.due("turns of " + i, 4, x.told(i, 9, 6));
        }
    }

    private static void judge() {
        StandingUp x = withRowers(3);
        Check.row(x, 0, 2, 1, 2, 22, 1, 2, 22, 1, 2, 22, 1, 2, 22, 1, 2, 22, 1);
        Check.due("right row", -1, x.judge(0, 0));
        Check.due("nothing changes", 0, x.count(4));
        for (int i = 0; i < 16; i++) {
            x.cell(0, i, 21);
            Check.due("judge " + i, 6 + i, x.judge(0, 0));
            x.cell(0, i, new int[] {1, 2, 22}[i % 3]);
        }
        Check.due("nothing changes", 0, x.count(4));
        Check.due("rowed", 1, x.rowed(0, 9));
        Check.due("other turns now", 6, x.judge(0, 0));
        Check.row(x, 1, 0, 2, 22, 1, 2);
        Check.due("right bytes", -1, x.judge(0, 1));
        for (int i = 0; i < 3; i++) {
            Check.due("turns stay", i < 2 ? 1 : 0, x.told(i, 9, 6));
        }
        // a row with hours in which nobody may row
        Check.row(x, 2, 1, -1, -1, -1);
        Check.due("none rows", -1, x.judge(1, 2));
        Check.row(x, 2, 1, -1, 0);
        Check.due("none rows, 0 told", 7, x.judge(1, 2));
        x.ill(0, 1);
        x.ill(1, 1);
        Check.row(x, 2, 1, -1, 22);
        Check.due("none but told", 7, x.judge(0, 2));
        // old ones row in even hours
        StandingUp y = Check.withCrossings(1);
        y.rower(2, 6000, -1);
        y.rower(2, 6000, -1);
        Check.row(y, 0, 0, 1, -1, 1, -1, 1);
        Check.due("even hours", -1, y.judge(0, 0));
        y.cell(0, 3, 1);
        Check.due("an odd one", 9, y.judge(0, 0));
        // a pair beyond 127 is no byte
        StandingUp z = Check.withCrossings(2);
        for (int i = 0; i < 9; i++) {
            z.rower(0, i < 7 ? 2000 : 2001, -1);
        }
        Check.row(z, 0, 0, 148);
        Check.due("148 as a byte", 6, z.judge(1, 0));
        Check.row(z, 0, 1, 148);
        Check.due("148 as a short", -1, z.judge(1, 0));
    }

    private static void judgeRefusals() {
        StandingUp x = withRowers(2);
        Check.row(x, 0, 0, 1);
        Check.due("judge crossing -1", -2, x.judge(-1, 0));
        Check.due("judge crossing 2", -2, x.judge(2, 0));
        Check.due("judge crossing 2, missing", -2, x.judge(2, 1));
        Check.due("judge sheet -1", -2, x.judge(0, -1));
        Check.due("judge sheet 4", -2, x.judge(0, 4));
        Check.due("judge missing", -11, x.judge(0, 1));
        x.sheet(0, 0, 0);
        Check.due("judge size 0", -2, x.judge(0, 0));
        x.sheet(0, 0, 17);
        Check.due("judge size 17", -2, x.judge(0, 0));
        x.sheet(0, 0, 16);
        Check.due("judge size 16", 6, x.judge(0, 0));
    }

    private static void eldestSon() {
        StandingUp x = Check.withCrossings(2);
        x.rower(0, 5000, -1);
        Check.due("no son", -1, x.heir(0, 1));
        x.rower(0, 4900, 0);
        x.rower(2, 4900, 0);
        x.rower(4, 4900, 0);
        x.rower(5, 4900, 0);
        Check.due("no heir among them", -1, x.heir(0, 1));
        x.rower(1, 2000, 0);
        Check.due("an heir", 5, x.heir(0, 1));
        x.rower(3, 2001, 0);
        Check.due("of like ones the least", 5, x.heir(0, 1));
        x.rower(3, 2100, 0);
        Check.due("a master is under it", 7, x.heir(0, 1));
        x.rower(1, 4000, 7);
        Check.due("no grandson", 7, x.heir(0, 1));
        Check.due("but a son", 8, x.heir(7, 1));
        x.rower(1, 1900, 0);
        Check.due("not a younger one", 7, x.heir(0, 1));
        x.ill(7, 1);
        Check.due("be it ill", 7, x.heir(0, 1));
        x.rower(1, 9000, -1);
        Check.due("without a father", 7, x.heir(0, 1));
    }

    private static void firstOfBlood() {
        StandingUp x = Check.withCrossings(2);
        x.rower(0, 2000, -1);
        x.rower(0, 2000, -1);
        Check.due("of none", -1, x.heir(0, 2));
        x.rower(0, 2001, 1);
        x.rower(5, 2000, 2);
        Check.due("a son", 2, x.heir(1, 2));
        x.ill(2, 1);
        Check.due("a grandson", 3, x.heir(1, 2));
        x.rower(0, 2000, 3);
        x.ill(3, 1);
        Check.due("no great-grandson", -1, x.heir(1, 2));
        Check.due("the grandson of 2", 4, x.heir(2, 2));
        x.rower(0, 2000, 1);
        Check.due("another son", 5, x.heir(1, 2));
        x.ill(3, 0);
        Check.due("the grandson comes ahead of him", 3, x.heir(1, 2));
        Check.due("0 has none still", -1, x.heir(0, 2));
    }

    private static void mostTurns() {
        StandingUp x = Check.withCrossings(2);
        x.rower(0, 5000, -1);
        Check.due("alone", -1, x.heir(0, 3));
        x.rower(0, 3001, -1);
        Check.due("alone at its crossing", -1, x.heir(0, 3));
        x.rower(4, 9001, -1);
        Check.due("no stand-in of another one", -1, x.heir(0, 3));
        Check.due("of 1", 2, x.heir(1, 3));
        x.rower(0, 3000, -1);
        x.rower(0, 4000, -1);
        x.rower(0, 4000, -1);
        x.rower(0, 3500, -1);
        Check.due("the eldest, then the least", 4, x.heir(0, 3));
        Check.due("not itself", 0, x.heir(4, 3));
        // 2 rows first (a stand-in of any), so 0 and 2, then 3 and 4, ..
        x.force(Check.text(x, "load 1;price 1;turn(age=30)*2+(age=35)*2;"));
        Check.due("rowed", 3 * 20 + 6, x.rowed(0, 8));
        Check.due("most turns, eldest", 6, x.heir(0, 3));
        Check.due("most turns but itself", 3, x.heir(6, 3));
        x.ill(6, 1);
        Check.due("be it ill", 6, x.heir(0, 3));
        x.rowed(0, 8);
        Check.due("more turns than an elder", 3, x.heir(0, 3));
    }

    private static void heirRefusals() {
        StandingUp x = withRowers(2);
        for (int rule = 1; rule < 4; rule++) {
            Check.due("heir of -1", -2, x.heir(-1, rule));
            Check.due("heir of 2", -2, x.heir(2, rule));
            Check.due("heir of far", -2, x.heir(Integer.MAX_VALUE, rule));
        }
        int[] badRules = {0, 4, -1, Integer.MIN_VALUE};
        for (int rule : badRules) {
            Check.due("heir rule", -2, x.heir(0, rule));
        }
    }
}
