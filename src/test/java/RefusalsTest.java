import java.util.ArrayList;
import java.util.List;

/** "Refusals .. change nothing": each refused call stands between two looks at all that an object tells. */
final class RefusalsTest {
    private static final int FAR = Integer.MAX_VALUE, FAR_BELOW = Integer.MIN_VALUE;
    private static final int NO_CALL = -999;

    public static void main(String[] args) {
        refusalsOf(false);
        refusalsOf(true);
        Check.end();
    }

    /** An object of which much has been told; a full one has no room for more, and its tape is full. */
    private static StandingUp rich(boolean full) {
        StandingUp x = new StandingUp();
        int crossings = full ? 7 : 3;
        for (int i = 0; i < crossings; i++) {
            x.crossing(20 + 6 * i, 11 * i + 1);
            x.set(20 + i, 30 + i);
        }
        int rowers = full ? 14 : 6;
        for (int i = 0; i < rowers; i++) {
            x.rower(i % 6, 1600 + 500 * i + 10 * (i % 9) + i % 2, i - 1 - i % 2);
        }
        for (int i = 0; i < (full ? 5 : 2); i++) {
            Check.text(x, "load " + (3 + i) + ";price heads*2+" + i + ";turn age-turns*" + (9 + i) + ";");
        }
        x.set(0, 4);
        x.force(1);
        x.path(12, 7);
        x.image();
        x.force(2);
        x.set(0, 5);
        x.set(1, 6);
        x.set(11, 0);
        x.ill(3, 1);
        x.rowed(0, 8);
        x.rowed(0, 8);
        x.path(12, 8);
        x.path(89, 3);
        Check.row(x, 0, 0, 1, 2, 3);
        Check.row(x, 1, 1, 0, 2000, -1, 0, 2000);
        Check.row(x, 2, 2);
        if (full) {
            Check.feed(x, " ".repeat(160));
        } else {
            Check.feed(x, "load 1;price 2;turn 3;");
        }
        return x;
    }

    /** All that an object tells; what is only told by being set is set back. */
    private static List<Integer> look(StandingUp x) {
        List<Integer> all = new ArrayList<>();
        for (int what = 0; what < 8; what++) {
            all.add(x.count(what));
        }
        int crossings = x.count(0), rowers = x.count(1);
        for (int i = 0; i < 2; i++) {
            int was = x.set(i, 0);
            all.add(was);
            x.set(i, was);
        }
        for (int c = 0; c < crossings; c++) {
            int was = x.set(10 + c, 1);
            all.add(was);
            x.set(10 + c, was);
            all.add(x.bridge(c, 0));
            all.add(x.turn(c, 8));
            all.add(x.lost(c));
        }
        for (int r = 0; r < rowers; r++) {
            for (int what = 0; what < 7; what++) {
                all.add(x.told(r, 9, what));
            }
        }
        for (int landings = 1; landings < 10; landings++) {
            all.add(x.foot(landings));
            all.add(x.foot(80 + landings));
        }
        for (int minutes = 0; minutes < 2; minutes++) {
            int was = x.path(12 + 77 * minutes, 0);
            all.add(was);
            x.path(12 + 77 * minutes, was);
        }
        all.add(x.load(9, -1, 9));
        all.add(x.box(3003, 1, 7, 9));
        lookAtSheets(x, all);
        lookAtTheLast(x, all);
        return all;
    }

    private static void lookAtSheets(StandingUp x, List<Integer> all) {
        for (int sheet = 0; sheet < 4; sheet++) {
            for (int sort = 0; sort < 3; sort++) {
                all.add(x.rowers(sheet, sort, 0, 0));
            }
            for (int i = 0; i < 6; i++) {
                all.add(x.copy(sheet, i, sheet, i, 1));
            }
            all.add(x.judge(0, sheet));
            all.add(x.waits(sheet, 1, 2, 0));
            all.add(x.waits(sheet, 1, 2, 1));
        }
        all.add(x.rowers(1, 1, 0, 1));
        all.add(x.count(1));
    }

    /** What can be looked at but once: the bytes of the tape, the image. */
    private static void lookAtTheLast(StandingUp x, List<Integer> all) {
        all.add(x.text());
        all.add(x.count(5));
        all.add(x.count(6));
        all.add(x.back());
        for (int what = 0; what < 8; what++) {
            all.add(x.count(what));
        }
        all.add(x.set(0, 0));
        all.add(x.set(1, 0));
        all.add(x.path(12, 0));
        all.add(x.path(89, 0));
        all.add(x.set(11, 0));
        all.add(x.ill(3, 0));
    }

    private static void refusalsOf(boolean full) {
        List<Integer> due = look(rich(full));
        Check.due("two looks are alike", 1, look(rich(full)).equals(due) ? 1 : 0);
        int k = 0;
        for (int refused = 0; refused != NO_CALL; k++) {
            StandingUp x = rich(full);
            refused = refusedCall(x, k, full);
            if (refused != NO_CALL) {
                Check.due("call " + k + " is refused", 1, refused < 0 ? 1 : 0);
                List<Integer> now = look(x);
                for (int i = 0; i < due.size() && i < now.size(); i++) {
                    Check.due("behind call " + k + (full ? " of a full one" : "") + ", look " + i, due.get(i), now.get(i));
                }
                Check.due("as many looks behind call " + k, due.size(), now.size());
            }
        }
        Check.due("calls", 1, k > 100 ? 1 : 0);
    }

    /** One refused call by its number; NO_CALL, if there are no more. */
    private static int refusedCall(StandingUp x, int k, boolean full) {
        switch (k) {
            case 0: return x.crossing(0, 12);
            case 1: return x.crossing(61, 12);
            case 2: return x.crossing(5, 22);
            case 3: return x.crossing(5, 100);
            case 4: return full ? x.crossing(5, 12) : x.crossing(5, -1);
            case 5: return x.set(0, 10);
            case 6: return x.set(0, -1);
            case 7: return x.set(1, 10);
            case 8: return x.set(1, -1);
            case 9: return x.set(10, 2);
            case 10: return x.set(10, -1);
            case 11: return x.set(20, 1000);
            case 12: return x.set(20, -1);
            case 13: return x.set(2, 1);
            case 14: return x.set(17, 1);
            case 15: return x.set(27, 1);
            case 16: return x.rower(6, 2000, -1);
            case 17: return x.rower(-1, 2000, -1);
            case 18: return x.rower(0, 1399, -1);
            case 19: return x.rower(0, 9100, -1);
            case 20: return x.rower(0, 2009, -1);
            case 21: return x.rower(0, 2000, 14);
            case 22: return x.rower(0, 2000, -2);
            case 23: return full ? x.rower(0, 2000, -1) : x.rower(0, 2000, 6);
            case 24: return x.ill(0, 2);
            case 25: return x.ill(0, -1);
            case 26: return x.ill(14, 1);
            case 27: return x.ill(-1, 1);
            case 28: return x.told(0, 24, 0);
            case 29: return x.told(0, 0, 11);
            case 30: return x.feed(0, -1L);
            case 31: return x.feed(9, -1L);
            case 32: return x.feed(-1, -1L);
            case 33: return full ? x.feed(1, 120) : x.feed(FAR, 120);
            case 34: return full ? x.text() : x.feed(FAR_BELOW, 120);
            case 35: return x.force(6);
            case 36: return x.force(-1);
            case 37: return x.load(1000, -1, 9);
            case 38: return x.load(0, -2, 9);
            case 39: return x.load(0, 1, 24);
            default: return k < 80 ? refusedTurn(x, k) : k < 120 ? refusedCoins(x, k) : refusedSheet(x, k);
        }
    }

    private static int refusedTurn(StandingUp x, int k) {
        switch (k) {
            case 40: return x.takes(0, 0);
            case 41: return x.takes(7, 1);
            case 42: return x.takes(0, -1);
            case 43: return x.waits(4, 1, 1, 0);
            case 44: return x.waits(0, 0, 1, 0);
            case 45: return x.waits(0, 1, 15, 0);
            case 46: return x.waits(0, 1, 1, 2);
            case 47: return x.waits(3, 1, 1, 0);
            case 48: return x.waits(2, 1, 1, 0);
            case 49: return x.waits(1, 1, 1, 0);
            case 50: return x.turn(7, 8);
            case 51: return x.turn(0, 24);
            case 52: return x.turn(0, 5);
            case 53: return x.rowed(7, 8);
            case 54: return x.rowed(-1, 8);
            case 55: return x.rowed(0, 24);
            case 56: return x.rowed(0, -1);
            case 57: return x.rowed(0, 2);
            case 58: return x.rowed(0, 0);
            case 59: return x.judge(7, 0);
            case 60: return x.judge(0, 4);
            case 61: return x.judge(0, 3);
            case 62: return x.judge(0, 2);
            case 63: return x.heir(14, 1);
            case 64: return x.heir(0, 0);
            case 65: return x.heir(0, 4);
            case 66: return x.open(43, 0);
            case 67: return x.open(0, 3);
            case 68: return x.path(11, 5);
            case 69: return x.path(100, 5);
            case 70: return x.path(12, 100);
            case 71: return x.path(12, -1);
            case 72: return x.path(-12, 5);
            case 73: return x.foot(100);
            case 74: return x.lost(7);
            case 75: return x.lost(-1);
            case 76: return x.fog(640, 0, 10, 0);
            case 77: return x.fog(0, 3, 10, 0);
            case 78: return x.fog(0, 0, 9, 0);
            default: return x.fog(0, 0, 10, 3);
        }
    }

    private static int refusedCoins(StandingUp x, int k) {
        switch (k) {
            case 80: return x.box(199, 0, 0, 0);
            case 81: return x.box(0, 10, 0, 0);
            case 82: return x.box(0, 0, 100000, 0);
            case 83: return x.box(0, 0, 0, 24);
            case 84: return x.shares(7, 5, -1);
            case 85: return x.shares(0, 100000, -1);
            case 86: return x.shares(0, 5, 1);
            case 87: return x.bridge(7, 5);
            case 88: return x.bridge(0, 101);
            case 89: return x.count(8);
            case 90: return x.count(-1);
            case 91: return x.taken(0, 6);
            case 92: return x.taken(14, 0);
            case 93: return x.taken(0, 1);
            case 94: return x.rowers(4, 1, 0, 1);
            case 95: return x.rowers(1, 3, 0, 1);
            case 96: return x.rowers(1, 1, 0, 13);
            case 97: return x.rowers(1, 1, 0, -1);
            case 98: return x.rowers(1, 2, 0, 1);
            case 99: return x.rowers(3, 1, 0, 1);
            case 100: return x.rowers(1, 1, -1, 1);
            case 101: return x.rowers(1, 1, 3, 1);
            case 102: return x.rowers(1, 1, 5, 12);
            case 103: return x.cell(4, 0, 9);
            case 104: return x.cell(-1, 0, 9);
            case 105: return x.cell(3, 0, 9);
            case 106: return x.cell(0, 3, 9);
            case 107: return x.cell(0, -1, 9);
            case 108: return x.cell(2, 0, 9);
            case 109: return x.copy(0, 0, 4, 0, 1);
            case 110: return x.copy(4, 0, 0, 0, 1);
            case 111: return x.copy(0, 0, 3, 0, 1);
            case 112: return x.copy(3, 0, 0, 0, 1);
            case 113: return x.copy(0, 0, 1, 0, 1);
            case 114: return x.copy(0, 0, 0, 1, 3);
            case 115: return x.copy(0, 1, 0, 0, 3);
            case 116: return x.copy(0, 2, 0, 0, -1);
            case 117: return x.copy(1, 1, 1, 3, 3);
            case 118: return x.copy(1, -1, 1, 0, 2);
            default: return x.copy(1, 1, 1, -1, 2);
        }
    }

    private static int refusedSheet(StandingUp x, int k) {
        switch (k) {
            case 120: return x.sheet(4, 0, 1);
            case 121: return x.sheet(-1, 0, 1);
            case 122: return x.sheet(4, -1, 1);
            case 123: return x.sheet(0, 3, 1);
            case 124: return x.sheet(0, -2, 1);
            case 125: return x.sheet(0, 0, 41);
            case 126: return x.sheet(1, 1, 41);
            case 127: return x.sheet(0, 0, -1);
            case 128: return x.sheet(1, 2, FAR_BELOW);
            case 129: return x.sheet(3, 2, -1);
            case 130: return x.sheet(3, 2, 41);
            case 131: return x.sheet(2, 0, FAR);
            default: return NO_CALL;
        }
    }
}
