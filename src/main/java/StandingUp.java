import java.util.Arrays;

/** Crossings of a canal at which people are rowed over, standing up, for a coin. */
public final class StandingUp {
    public static final int NONE = -1, BAD = -2, STATE = -3, FULL = -4;
    public static final long NO = -4611686018427387904L;

    private static final int NOTHING = -11, OUTSIDE = -12, OTHER_KIND = -13, BELOW_0 = -14;
    private static final int NOT_SET = -1000, NOT_TOLD = -1000000, NO_TEXT = -100;
    private static final int MOST_CROSSINGS = 7, MOST_ROWERS = 14, MOST_SHEETS = 4;
    private static final int MOST_TIDE = 9, MOST_HEADS = 999, MOST_TOLD = 198, MOST_OF_A_SORT = 99;
    private static final int LAST_HOUR = 23, FIRST_ROW_HOUR = 6, MOST_ROW = 16;
    private static final int MOST_COINS = 99999, MOST_LOAD = 14, MOST_PRICE = 99;
    private static final int LAST_CELL = 63, LAST_FOG_MINUTE = 60;
    private static final int PAIR = 20;
    private static final String FIRST_RULE = "load 14 - tide ; price 10 - heads * 8 ; turn 0 - turns ;";

    private int tide, wash;
    private final Crossing[] crossings = new Crossing[MOST_CROSSINGS];
    private int crossingCount;
    private final Rower[] crew = new Rower[MOST_ROWERS];
    private int crewCount;
    private final Texts texts = new Texts();
    private final int[] names = new int[Texts.NAMES];
    private final Boat boat = new Boat();
    private final Landings landingsOfAll = new Landings();
    private final Sheet[] sheets = new Sheet[MOST_SHEETS];
    private final int[] turnsAhead = new int[MOST_ROWERS];
    private boolean imageKept;
    private int keptTide, keptWash, keptRule, keptCrossings, keptCrew;

    public StandingUp() {
        for (int i = 0; i < MOST_SHEETS; i++) {
            sheets[i] = new Sheet();
        }
        texts.addSigns(FIRST_RULE);
        texts.readTape();
    }

    // ---- crossings, rowers

    public int crossing(int strokes, int landings) {
        if (!within(strokes, 1, 60) || !Landings.areTwo(landings)) {
            return BAD;
        }
        if (crossingCount >= MOST_CROSSINGS) {
            return FULL;
        }
        crossings[crossingCount] = new Crossing(strokes, landings);
        crossingCount++;
        return crossingCount - 1;
    }

    public int set(int what, int v) {
        if (what == 0 || what == 1) {
            return setWater(what, v);
        }
        Crossing shutOrOpen = crossingAt((long) what - 10);
        if (shutOrOpen != null) {
            return within(v, 0, 1) ? shutOrOpen.become(v) : NOT_SET;
        }
        Crossing counted = crossingAt((long) what - 20);
        return counted != null && within(v, 0, MOST_HEADS) ? counted.takeHeads(v) : NOT_SET;
    }

    private int setWater(int what, int v) {
        if (!within(v, 0, MOST_TIDE)) {
            return NOT_SET;
        }
        int was = what == 0 ? tide : wash;
        if (what == 0) {
            tide = v;
        } else {
            wash = v;
        }
        return was;
    }

    public int rower(int kind, int rest, int father) {
        if (!within(kind, Rower.ROWER, Rower.ELDER) || !within(rest, 1400, 9099)
                || crossingAt(rest % 10) == null || father != NONE && rowerAt(father) == null) {
            return BAD;
        }
        if (crewCount >= MOST_ROWERS) {
            return FULL;
        }
        crew[crewCount] = newRower(kind, rest, father);
        crewCount++;
        return crewCount - 1;
    }

    private static Rower newRower(int kind, int rest, int father) {
        switch (kind) {
            case Rower.HEIR: return new Heir(kind, rest, father);
            case Rower.OLD: return new Old(kind, rest, father);
            case Rower.MASTER: return new Master(kind, rest, father);
            case Rower.STAND_IN: return new StandIn(kind, rest, father);
            case Rower.ELDER: return new Elder(kind, rest, father);
            default: return new Rower(kind, rest, father);
        }
    }

    public int ill(int rower, int is) {
        Rower r = rowerAt(rower);
        if (r == null || !within(is, 0, 1)) {
            return BAD;
        }
        int was = r.illness;
        r.illness = is;
        return was;
    }

    public int told(int rower, int hour, int what) {
        Rower r = rowerAt(rower);
        if (r == null || !isHour(hour)) {
            return NOT_TOLD;
        }
        switch (what) {
            case 0: return r.kind;
            case 1: return r.age;
            case 2: return r.number;
            case 3: return r.crossing;
            case 4: return r.father;
            case 5: return r.illness;
            case 6: return r.turns;
            case 7: return r.toldPace();
            case 8: return r.may(hour) ? 1 : 0;
            case 9: return r.parts();
            case 10: return byRule(Texts.TURN, 0, r.age, hour, r.turns);
            default: return NOT_TOLD;
        }
    }

    // ---- texts

    public int feed(int n, long bytes) {
        return within(n, 1, 8) ? texts.addBytes(n, bytes) : BAD;
    }

    public int text() {
        return texts.readTape();
    }

    public int force(int text) {
        if (!within(text, 0, texts.count - 1)) {
            return BAD;
        }
        int was = texts.rule;
        texts.rule = text;
        return was;
    }

    public int load(int heads, int rowers, int hour) {
        boolean asked = rowers != NONE;
        Rower one = oneOf(rowers);
        Rower other = otherOf(rowers);
        if (!within(heads, 0, MOST_HEADS) || asked && (one == null || other == null) || !isHour(hour)) {
            return BAD;
        }
        int age = one == null || other == null ? 0 : Math.max(one.age, other.age);
        int most = byRule(Texts.LOAD, heads, age, hour, 0);
        return Math.max(1, Math.min(MOST_LOAD, most));
    }

    public int takes(int crossing, int rowers) {
        Crossing c = crossingAt(crossing);
        Rower one = oneOf(rowers);
        Rower other = otherOf(rowers);
        if (c == null || one == null || other == null || one == other) {
            return BAD;
        }
        int strokes = c.strokes + 2 * wash;
        int pace = one.toldPace() + other.toldPace();
        return pace < 1 ? BAD : (strokes + pace - 1) / pace;
    }

    /** What a part of THE RULE comes to. */
    private int byRule(int part, int heads, int age, int hour, int turns) {
        names[Texts.HEADS] = heads;
        names[Texts.TIDE] = tide;
        names[Texts.WASH] = wash;
        names[Texts.AGE] = age;
        names[Texts.HOUR] = hour;
        names[Texts.TURNS] = turns;
        return texts.value(part - Texts.LOAD, names);
    }

    private int priceOf(int heads, int hour) {
        return Math.max(0, Math.min(MOST_PRICE, byRule(Texts.PRICE, heads, 0, hour, 0)));
    }

    // ---- waits, turns

    public int waits(int sheet, int t, int most, int what) {
        Sheet s = sheetAt(sheet);
        if (s == null || !within(t, 1, 9) || !within(most, 1, MOST_LOAD) || !within(what, 0, 1)) {
            return BAD;
        }
        if (s.isMissing()) {
            return NOTHING;
        }
        if (!boat.awaits(s)) {
            return BAD;
        }
        long best = boat.bestPlan(t, most);
        return what == 0 ? Boat.waitsOf(best) : Boat.minutesOf(best);
    }

    public int turn(int crossing, int hour) {
        return crossingAt(crossing) != null && isHour(hour) ? dueTwo(crossing, hour) : BAD;
    }

    public int rowed(int crossing, int hour) {
        int two = turn(crossing, hour);
        oneMore(two);
        return two;
    }

    public int judge(int crossing, int sheet) {
        Sheet s = sheetAt(sheet);
        if (crossingAt(crossing) == null || s == null) {
            return BAD;
        }
        if (s.isMissing()) {
            return NOTHING;
        }
        if (!within(s.size, 1, MOST_ROW)) {
            return BAD;
        }
        for (int i = 0; i < crewCount; i++) {
            turnsAhead[i] = crew[i].turns;
        }
        int hour = firstOther(crossing, s);
        for (int i = 0; i < crewCount; i++) {
            crew[i].turns = turnsAhead[i];
        }
        return hour;
    }

    /** Rows the turns of a row till it tells another one; who calls this sets the turns back. */
    private int firstOther(int crossing, Sheet row) {
        for (int i = 0; i < row.size; i++) {
            int two = dueTwo(crossing, FIRST_ROW_HOUR + i);
            if (row.item(i) != two) {
                return FIRST_ROW_HOUR + i;
            }
            oneMore(two);
        }
        return NONE;
    }

    private int dueTwo(int crossing, int hour) {
        int first = NONE, second = NONE, firstDue = 0, secondDue = 0;
        for (int i = 0; i < crewCount; i++) {
            Rower r = crew[i];
            if (!r.rowsAt(crossing) || !r.may(hour)) {
                continue;
            }
            int due = byRule(Texts.TURN, 0, r.age, hour, r.turns);
            if (first == NONE || due > firstDue) {
                second = first;
                secondDue = firstDue;
                first = i;
                firstDue = due;
            } else if (second == NONE || due > secondDue) {
                second = i;
                secondDue = due;
            }
        }
        return second == NONE ? NONE : PAIR * Math.min(first, second) + Math.max(first, second);
    }

    /** One turn more for each of two; a refusal is no two. */
    private void oneMore(int two) {
        Rower one = oneOf(two);
        Rower other = otherOf(two);
        if (one != null && other != null) {
            one.turns++;
            other.turns++;
        }
    }

    public int heir(int rower, int rule) {
        Rower r = rowerAt(rower);
        if (r == null) {
            return BAD;
        }
        switch (rule) {
            case 1: return eldestSon(rower);
            case 2: return firstOfBlood(rower);
            case 3: return mostTurns(rower, r.crossing);
            default: return BAD;
        }
    }

    private int eldestSon(int father) {
        int best = NONE, bestAge = 0;
        for (int i = 0; i < crewCount; i++) {
            Rower r = crew[i];
            if (r.father == father && r instanceof Heir && (best == NONE || r.age > bestAge)) {
                best = i;
                bestAge = r.age;
            }
        }
        return best;
    }

    private int firstOfBlood(int elder) {
        for (int i = 0; i < crewCount; i++) {
            Rower r = crew[i];
            Rower father = rowerAt(r.father);
            boolean ofBlood = r.father == elder || father != null && father.father == elder;
            if (ofBlood && r.illness == 0) {
                return i;
            }
        }
        return NONE;
    }

    private int mostTurns(int but, int crossing) {
        int best = NONE, bestTurns = 0, bestAge = 0;
        for (int i = 0; i < crewCount; i++) {
            Rower r = crew[i];
            if (i == but || r.crossing != crossing) {
                continue;
            }
            if (best == NONE || r.turns > bestTurns || r.turns == bestTurns && r.age > bestAge) {
                best = i;
                bestTurns = r.turns;
                bestAge = r.age;
            }
        }
        return best;
    }

    // ---- open, on foot

    public int open(int rowers, int what) {
        if (!within(rowers, 0, 42) || !within(what, 0, 2)) {
            return BAD;
        }
        int best = 0, bestHeads = 0, bestCrew = 0;
        for (int some = 1; some < 1 << crossingCount; some++) {
            int heads = 0, needed = 0;
            for (int i = 0; i < crossingCount; i++) {
                if ((some >> i & 1) != 0) {
                    heads += crossings[i].heads;
                    needed += crossings[i].crewNeeded();
                }
            }
            boolean better = heads > bestHeads || heads == bestHeads && needed < bestCrew;
            if (needed <= rowers && better) {
                best = some;
                bestHeads = heads;
                bestCrew = needed;
            }
        }
        return what == 0 ? best : what == 1 ? bestHeads : bestCrew;
    }

    public int path(int landings, int minutes) {
        boolean told = Landings.areTwo(landings) && within(minutes, 0, 99);
        return told ? landingsOfAll.takePath(landings, minutes) : BAD;
    }

    public int foot(int landings) {
        if (!within(landings, 0, Landings.PAIRS - 1)) {
            return BAD;
        }
        int minutes = landingsOfAll.leastWay(landings, crossings, crossingCount);
        return minutes < Landings.FAR ? minutes : NONE;
    }

    public int lost(int crossing) {
        Crossing c = crossingAt(crossing);
        if (c == null) {
            return BAD;
        }
        int was = c.become(0);
        if (was == 0) {
            return 0;
        }
        landingsOfAll.measureThen(crossings, crossingCount);
        c.become(was);
        landingsOfAll.measureNow(crossings, crossingCount);
        return landingsOfAll.lostMinutes();
    }

    public int fog(int one, int other, int bell, int what) {
        if (!isABoat(one) || !isABoat(other) || !within(bell, 10, 99) || !within(what, 0, 2)) {
            return BAD;
        }
        int every = Math.max(1, bell / 10), hears = bell % 10;
        int cell = one / 10, goes = one % 10 - 1;
        int otherCell = other / 10, otherGoes = other % 10 - 1;
        int least = Math.abs(cell - otherCell), leastMinute = 0;
        boolean met = least == 0;
        for (int minute = 1; minute <= LAST_FOG_MINUTE; minute++) {
            goes = turnedAbout(cell, goes);
            otherGoes = turnedAbout(otherCell, otherGoes);
            boolean changed = cell + goes == otherCell && otherCell + otherGoes == cell;
            cell += goes;
            otherCell += otherGoes;
            int distance = Math.abs(cell - otherCell);
            met = met || changed || distance == 0;
            if (distance < least) {
                least = distance;
                leastMinute = minute;
            }
            if (minute % every == 0 && distance <= hears) {
                otherGoes = 0;
            }
        }
        return what == 0 ? least : what == 1 ? leastMinute : met ? 1 : 0;
    }

    private static boolean isABoat(int boat) {
        return within(boat, 0, 10 * LAST_CELL + 9) && boat % 10 <= 2;
    }

    private static int turnedAbout(int cell, int goes) {
        return within(cell + goes, 0, LAST_CELL) ? goes : -goes;
    }

    // ---- coins

    public int box(int heads, int off, int coins, int hour) {
        if (heads < 0 || heads / 1000 > MOST_TOLD || heads % 1000 > MOST_TOLD
                || !within(off, 0, 9) || !within(coins, 0, MOST_COINS) || !isHour(hour)) {
            return BAD;
        }
        int ofLocal = priceOf(1, hour), ofStranger = priceOf(0, hour);
        int leastHeads = Math.max(heads / 1000, heads % 1000) - off;
        int mostHeads = Math.min(heads / 1000, heads % 1000) + off;
        int ways = 0;
        for (int locals = 0; locals <= MOST_OF_A_SORT; locals++) {
            int most = Math.min(MOST_OF_A_SORT, mostHeads - locals);
            for (int strangers = Math.max(0, leastHeads - locals); strangers <= most; strangers++) {
                if (locals * ofLocal + strangers * ofStranger == coins) {
                    ways++;
                }
            }
        }
        return ways;
    }

    public int shares(int crossing, int coins, int rower) {
        Rower asked = rowerAt(rower);
        boolean ofIt = asked == null ? rower == NONE : asked.crossing == crossing;
        if (crossingAt(crossing) == null || !within(coins, 0, MOST_COINS) || !ofIt) {
            return BAD;
        }
        int parts = 0;
        for (int i = 0; i < crewCount; i++) {
            parts += crew[i].crossing == crossing ? crew[i].parts() : 0;
        }
        if (asked != null) {
            return shareOf(asked, coins, parts);
        }
        int left = coins;
        for (int i = 0; i < crewCount; i++) {
            left -= crew[i].crossing == crossing ? shareOf(crew[i], coins, parts) : 0;
        }
        return left;
    }

    private static int shareOf(Rower r, int coins, int parts) {
        return parts < 1 ? 0 : coins * r.parts() / parts;
    }

    public int bridge(int crossing, int hundredths) {
        Crossing c = crossingAt(crossing);
        return c != null && within(hundredths, 0, 100) ? c.heads * (100 - hundredths) / 100 : BAD;
    }

    public int image() {
        keptTide = tide;
        keptWash = wash;
        keptRule = texts.rule;
        keptCrossings = crossingCount;
        keptCrew = crewCount;
        for (int i = 0; i < crossingCount; i++) {
            crossings[i].keep();
        }
        for (int i = 0; i < crewCount; i++) {
            crew[i].keep();
        }
        landingsOfAll.keep();
        imageKept = true;
        return crewCount;
    }

    public int back() {
        if (!imageKept) {
            return STATE;
        }
        tide = keptTide;
        wash = keptWash;
        texts.rule = keptRule;
        for (int i = 0; i < keptCrossings; i++) {
            crossings[i].comeBack();
        }
        for (int i = 0; i < keptCrew; i++) {
            crew[i].comeBack();
        }
        landingsOfAll.comeBack();
        return crewCount;
    }

    public int count(int what) {
        switch (what) {
            case 0: return crossingCount;
            case 1: return crewCount;
            case 2: return openOnes();
            case 3: return illOnes();
            case 4: return turnsInAll();
            case 5: return texts.count;
            case 6: return texts.size;
            case 7: return texts.rule;
            default: return BAD;
        }
    }

    private int openOnes() {
        int sum = 0;
        for (int i = 0; i < crossingCount; i++) {
            sum += crossings[i].isOpen;
        }
        return sum;
    }

    private int illOnes() {
        int sum = 0;
        for (int i = 0; i < crewCount; i++) {
            sum += crew[i].illness;
        }
        return sum;
    }

    private int turnsInAll() {
        int sum = 0;
        for (int i = 0; i < crewCount; i++) {
            sum += crew[i].turns;
        }
        return sum;
    }

    // ---- the host

    public int sheet(int sheet, int sort, int n) {
        Sheet s = sheetAt(sheet);
        if (s == null || !within(sort, Sheet.MISSING, Sheet.INTS) || sort != Sheet.MISSING && n > Sheet.MOST) {
            return BAD;
        }
        if (sort != Sheet.MISSING && n < 0) {
            return BELOW_0;
        }
        s.become(sort, n);
        return 1;
    }

    public int cell(int sheet, int i, int v) {
        Sheet s = sheetAt(sheet);
        if (s == null) {
            return BAD;
        }
        if (s.isMissing()) {
            return NOTHING;
        }
        return s.put(i, v) ? 1 : OUTSIDE;
    }

    public int copy(int sheet, int i, int other, int j, int n) {
        Sheet from = sheetAt(sheet);
        Sheet to = sheetAt(other);
        if (from == null || to == null) {
            return BAD;
        }
        if (from.isMissing() || to.isMissing()) {
            return NOTHING;
        }
        if (from.sort != to.sort) {
            return OTHER_KIND;
        }
        if (!from.holds(i, n) || !to.holds(j, n)) {
            return OUTSIDE;
        }
        System.arraycopy(from.items, i, to.items, j, n);
        return n;
    }

    public int rowers(int sheet, int sort, int from, int n) {
        Sheet s = sheetAt(sheet);
        if (s == null || !within(sort, Sheet.BYTES, Sheet.INTS) || !within(n, 0, 12)) {
            return BAD;
        }
        if (s.isMissing()) {
            return NOTHING;
        }
        if (s.sort != sort) {
            return OTHER_KIND;
        }
        int came = 0;
        for (int k = 0; k < n; k++) {
            int at = from + 3 * k;
            if (!s.holds(at, 3)) {
                return OUTSIDE;
            }
            came += rower(s.item(at), s.item(at + 1), s.item(at + 2)) >= 0 ? 1 : 0;
        }
        return came;
    }

    public int taken(int rower, int k) {
        if (!within(k, Rower.ROWER, Rower.ELDER)) {
            return BAD;
        }
        Rower r = rowerAt(rower);
        if (r == null) {
            return NOTHING;
        }
        return isUnder(r, k) ? r.number : OTHER_KIND;
    }

    private static boolean isUnder(Rower r, int kind) {
        switch (kind) {
            case Rower.ROWER: return true;
            case Rower.HEIR: return r instanceof Heir;
            case Rower.OLD: return r instanceof Old;
            case Rower.MASTER: return r instanceof Master;
            case Rower.STAND_IN: return r instanceof StandIn;
            case Rower.ELDER: return r instanceof Elder;
            default: return false;
        }
    }

    // ---- looking things up

    private static boolean within(int v, int least, int most) {
        return v >= least && v <= most;
    }

    private static boolean isHour(int hour) {
        return within(hour, 0, LAST_HOUR);
    }

    /** A long, so that a number less ten or twenty can't wrap to a crossing's. */
    private Crossing crossingAt(long i) {
        return i >= 0 && i < crossingCount ? crossings[(int) i] : null;
    }

    private Rower rowerAt(int i) {
        return i >= 0 && i < crewCount ? crew[i] : null;
    }

    private Rower oneOf(int two) {
        return two < 0 ? null : rowerAt(two / PAIR);
    }

    private Rower otherOf(int two) {
        return two < 0 ? null : rowerAt(two % PAIR);
    }

    private Sheet sheetAt(int i) {
        return i >= 0 && i < MOST_SHEETS ? sheets[i] : null;
    }

    private static final class Crossing {
        static final int LONG_ONE = 30;

        final int strokes, landings;
        int isOpen = 1;
        int heads;
        int keptOpen, keptHeads;

        Crossing(int strokes, int landings) {
            this.strokes = strokes;
            this.landings = landings;
        }

        int become(int openOrShut) {
            int was = isOpen;
            isOpen = openOrShut;
            return was;
        }

        int takeHeads(int many) {
            int was = heads;
            heads = many;
            return was;
        }

        int crewNeeded() {
            return strokes > LONG_ONE ? 3 : 2;
        }

        void keep() {
            keptOpen = isOpen;
            keptHeads = heads;
        }

        void comeBack() {
            isOpen = keptOpen;
            heads = keptHeads;
        }
    }

    private static class Rower {
        static final int ROWER = 0, HEIR = 1, OLD = 2, MASTER = 3, STAND_IN = 4, ELDER = 5;

        final int kind, age, number, crossing, father;
        int illness, turns;
        int keptIllness, keptTurns;

        Rower(int kind, int rest, int father) {
            this.kind = kind;
            this.age = rest / 100;
            this.number = rest / 10 % 10;
            this.crossing = rest % 10;
            this.father = father;
        }

        /** Strokes a minute, before the least that is told. */
        int pace() {
            return 10;
        }

        final int toldPace() {
            return Math.max(1, pace());
        }

        boolean may(int hour) {
            return hour >= 6 && hour < 22 && !isIll();
        }

        int parts() {
            return 4;
        }

        boolean rowsAt(int someCrossing) {
            return crossing == someCrossing;
        }

        final boolean isIll() {
            return illness != 0;
        }

        final void keep() {
            keptIllness = illness;
            keptTurns = turns;
        }

        final void comeBack() {
            illness = keptIllness;
            turns = keptTurns;
        }
    }

    private static class Heir extends Rower {
        Heir(int kind, int rest, int father) {
            super(kind, rest, father);
        }

        int pace() {
            return super.pace() + 2;
        }

        boolean may(int hour) {
            return super.may(hour) && age > 15;
        }

        int parts() {
            return super.parts() - 1;
        }
    }

    private static class Old extends Rower {
        Old(int kind, int rest, int father) {
            super(kind, rest, father);
        }

        int pace() {
            return super.pace() - age / 20;
        }

        boolean may(int hour) {
            return super.may(hour) && (hour % 2 == 0 || number > 4);
        }
    }

    private static final class Master extends Heir {
        Master(int kind, int rest, int father) {
            super(kind, rest, father);
        }

        int pace() {
            return super.pace() + number;
        }

        boolean may(int hour) {
            return super.may(hour) || hour == number && !isIll();
        }

        int parts() {
            return 2 * super.parts();
        }
    }

    private static final class StandIn extends Rower {
        StandIn(int kind, int rest, int father) {
            super(kind, rest, father);
        }

        int pace() {
            return super.pace() - 3;
        }

        boolean may(int hour) {
            return super.may(hour) || !isIll() && hour >= 22;
        }

        int parts() {
            return super.parts() / 2;
        }

        boolean rowsAt(int someCrossing) {
            return true;
        }
    }

    private static final class Elder extends Old {
        Elder(int kind, int rest, int father) {
            super(kind, rest, father);
        }

        int pace() {
            return super.pace() / 2 + 2;
        }

        boolean may(int hour) {
            return super.may(hour) && hour < 14;
        }

        int parts() {
            return super.parts() + 1;
        }
    }

    /** A row of numbers; its items keep what a byte, a short, an int would. */
    private static final class Sheet {
        static final int MISSING = -1, BYTES = 0, SHORTS = 1, INTS = 2, MOST = 40;

        int sort = MISSING;
        int size;
        final int[] items = new int[MOST];

        boolean isMissing() {
            return sort == MISSING;
        }

        void become(int newSort, int newSize) {
            sort = newSort;
            size = newSort == MISSING ? 0 : Math.max(0, Math.min(MOST, newSize));
            Arrays.fill(items, 0);
        }

        boolean holds(int from, int many) {
            return from >= 0 && many >= 0 && from <= size && many <= size - from;
        }

        int item(int i) {
            return holds(i, 1) ? items[i] : 0;
        }

        boolean put(int i, int v) {
            if (!holds(i, 1)) {
                return false;
            }
            items[i] = sort == BYTES ? (byte) v : sort == SHORTS ? (short) v : v;
            return true;
        }
    }

    /** THE TAPE, and the TEXTS that were read from it, as rows of steps for a stack. */
    private static final class Texts {
        static final int HEADS = 0, TIDE = 1, WASH = 2, AGE = 3, HOUR = 4, TURNS = 5, NAMES = 6;
        static final int LOAD = 6, PRICE = 7, TURN = 8, OR = 9, AND = 10, NOT = 11, WORDS = 12;
        static final int NUMBER = 12, END = 13, WRONG = 14, NEGATE = 15;
        // the levels of the grammar: each is made of those of the next one
        static final int E = 0, BOTH = 1, NOT_OR_SUM = 2, SUM = 3, TERM = 4, ONE = 5;

        static final int MOST_TEXTS = 6, MOST_BYTES = 160, PARTS = 3, MOST_OPEN = 5, MOST_DIGITS = 4;
        static final int WORD_WIDTH = 5, MOST_STACK = 64;
        // a step below this is a number, any other one is this and a token
        static final int STEP = 10000;
        static final String ALL_WORDS = "headstide wash age  hour turnsload priceturn or   and  not  ";
        static final String SIGNS = "();+-*<=";

        final byte[] tape = new byte[MOST_BYTES];
        int size;
        // a text has no more steps than tokens, and no more tokens than bytes
        final int[] steps = new int[MOST_TEXTS * MOST_BYTES];
        final int[] starts = new int[MOST_TEXTS * PARTS];
        int count, rule;
        final int[] stack = new int[MOST_STACK];
        private int length, place, first, token, number, fault;

        int addBytes(int n, long bytes) {
            if (n > MOST_BYTES - size) {
                return FULL;
            }
            for (int i = 0; i < n; i++) {
                tape[size] = (byte) (bytes >> 8 * i);
                size++;
            }
            return size;
        }

        void addSigns(String signs) {
            for (int i = 0; i < signs.length(); i++) {
                addBytes(1, signs.charAt(i));
            }
        }

        int readTape() {
            if (count >= MOST_TEXTS) {
                return FULL;
            }
            length = 0;
            place = 0;
            fault = NONE;
            nextToken();
            for (int part = 0; part < PARTS; part++) {
                starts[count * PARTS + part] = length;
                pass(LOAD + part);
                read(E, 0);
                pass(';');
                write(STEP + ';');
            }
            if (token != END) {
                refuse();
            }
            size = 0;
            if (fault != NONE) {
                return NO_TEXT - fault;
            }
            count++;
            return count - 1;
        }

        private void read(int level, int open) {
            boolean opens = level == ONE ? token == '-' || token == '(' : level == NOT_OR_SUM && token == NOT;
            if (opens) {
                readOpening(open);
            } else if (level == ONE) {
                readOne();
            } else {
                readJoined(level, open);
            }
        }

        private void readOpening(int open) {
            if (open >= MOST_OPEN) {
                refuse();
                return;
            }
            int opening = token;
            nextToken();
            read(opening == NOT ? NOT_OR_SUM : opening == '-' ? ONE : E, open + 1);
            if (opening == '(') {
                pass(')');
            } else {
                write(STEP + (opening == NOT ? NOT : NEGATE));
            }
        }

        private void readOne() {
            if (token == NUMBER) {
                write(number);
                nextToken();
            } else if (token >= 0 && token < NAMES) {
                write(STEP + token);
                nextToken();
            } else {
                refuse();
            }
        }

        private void readJoined(int level, int open) {
            read(level + 1, open);
            int most = level == NOT_OR_SUM ? 1 : MOST_BYTES;
            for (int n = 0; n < most && joins(level); n++) {
                int sign = token;
                nextToken();
                read(level + 1, open);
                write(STEP + sign);
            }
        }

        private boolean joins(int level) {
            switch (level) {
                case E: return token == OR;
                case BOTH: return token == AND;
                case NOT_OR_SUM: return token == '<' || token == '=';
                case SUM: return token == '+' || token == '-';
                case TERM: return token == '*';
                default: return false;
            }
        }

        private void pass(int wanted) {
            if (token == wanted) {
                nextToken();
            } else {
                refuse();
            }
        }

        /** From the first fault on no token is any that somebody looks for, so reading ends. */
        private void refuse() {
            if (fault == NONE) {
                fault = first;
            }
            token = WRONG;
        }

        private void write(int step) {
            if (length < MOST_BYTES) {
                steps[count * MOST_BYTES + length] = step;
                length++;
            }
        }

        private void nextToken() {
            while (place < size && (tape[place] == ' ' || tape[place] == '\n')) {
                place++;
            }
            first = place;
            if (place >= size) {
                token = END;
            } else if (isLetter(tape[place])) {
                takeWord();
            } else if (isDigit(tape[place])) {
                takeNumber();
            } else {
                int sign = tape[place];
                token = sign > 0 && SIGNS.indexOf((char) sign) >= 0 ? sign : WRONG;
                place++;
            }
        }

        private static boolean isLetter(int sign) {
            return sign >= 'a' && sign <= 'z';
        }

        private static boolean isDigit(int sign) {
            return sign >= '0' && sign <= '9';
        }

        private void takeNumber() {
            number = 0;
            while (place < size && isDigit(tape[place])) {
                number = number * 10 + tape[place] - '0';
                place++;
            }
            token = place - first > MOST_DIGITS ? WRONG : NUMBER;
        }

        private void takeWord() {
            while (place < size && isLetter(tape[place])) {
                place++;
            }
            token = WRONG;
            for (int word = 0; word < WORDS; word++) {
                if (isWord(word)) {
                    token = word;
                }
            }
        }

        /** Whether the letters from the first one on are the word. */
        private boolean isWord(int word) {
            boolean alike = place - first <= WORD_WIDTH;
            for (int i = 0; i < WORD_WIDTH && alike; i++) {
                int sign = first + i < place ? tape[first + i] : ' ';
                alike = sign == ALL_WORDS.charAt(word * WORD_WIDTH + i);
            }
            return alike;
        }

        /** What a part (0 load, 1 price, 2 turn) of THE RULE comes to. */
        int value(int part, int[] names) {
            int depth = 0;
            int from = rule * MOST_BYTES;
            for (int i = from + starts[rule * PARTS + part]; i < from + MOST_BYTES && steps[i] != STEP + ';'; i++) {
                depth = doStep(steps[i], depth, names);
            }
            return stack[0];
        }

        /** Does a step on the stack: how many stand there then. */
        private int doStep(int step, int depth, int[] names) {
            int sign = step - STEP;
            if (sign < 0 || sign < names.length) {
                if (depth < MOST_STACK) {
                    stack[depth] = sign < 0 ? step : names[sign];
                    return depth + 1;
                }
                return depth;
            }
            if (sign == NOT || sign == NEGATE) {
                if (depth > 0) {
                    int one = stack[depth - 1];
                    stack[depth - 1] = sign == NEGATE ? -one : one == 0 ? 1 : 0;
                }
                return depth;
            }
            if (depth > 1) {
                stack[depth - 2] = joined(sign, stack[depth - 2], stack[depth - 1]);
                return depth - 1;
            }
            return depth;
        }

        private static int joined(int sign, int one, int other) {
            switch (sign) {
                case OR: return one != 0 || other != 0 ? 1 : 0;
                case AND: return one != 0 && other != 0 ? 1 : 0;
                case '<': return one < other ? 1 : 0;
                case '=': return one == other ? 1 : 0;
                case '+': return one + other;
                case '-': return one - other;
                default: return one * other;
            }
        }
    }

    /** WAITS, from the last boat back. A plan is one number: its waits, and below them its MINUTES as bits. */
    private static final class Boat {
        static final int MOST_MINUTES = 24, MOST_AT_ONCE = 20, LONGEST = 18;
        // at most 14 at once in the 11 trips that end up to the last of 24 minutes, and none gone
        static final int GONE = 155;
        static final long ONE_WAIT = 1L << MOST_MINUTES;

        int minutes;
        private int most, trip;
        // how many came up to a minute, and those added up ahead of a minute
        final int[] came = new int[MOST_MINUTES + LONGEST];
        final int[] sums = new int[MOST_MINUTES + LONGEST + 1];
        // by the minute, and by how many are gone when the boat is there
        final long[] best = new long[MOST_MINUTES * GONE];

        static int waitsOf(long plan) {
            return (int) (plan / ONE_WAIT);
        }

        static int minutesOf(long plan) {
            return (int) (plan % ONE_WAIT);
        }

        /** Whether a sheet tells how many come in each minute; they are added up then. */
        boolean awaits(Sheet s) {
            if (s.size < 1 || s.size > MOST_MINUTES) {
                return false;
            }
            int all = 0;
            for (int m = 0; m < came.length; m++) {
                int more = m < s.size ? s.item(m) : 0;
                if (more < 0 || more > MOST_AT_ONCE) {
                    return false;
                }
                all += more;
                came[m] = all;
                sums[m + 1] = sums[m] + all;
            }
            minutes = s.size;
            return true;
        }

        /** The best plan for the row that awaits() took; t is 1 .. 9, and at once 1 .. 14 are rowed. */
        long bestPlan(int t, int atOnce) {
            trip = 2 * t;
            most = atOnce;
            if (trip < 1 || most < 1) {
                return 0;
            }
            for (int m = minutes - 1; m >= 0; m--) {
                int mostGone = Math.min(came[m], most * (m / trip));
                for (int gone = 0; gone <= mostGone; gone++) {
                    best[m * GONE + gone] = bestFrom(m, gone);
                }
            }
            return best[0];
        }

        private long bestFrom(int m, int gone) {
            int waiting = came[m] - gone;
            boolean last = m == minutes - 1;
            if (waiting <= 0 && last) {
                return 0;
            }
            if (last) {
                return planPuttingOff(m, gone);
            }
            long staying = waiting * ONE_WAIT + best[(m + 1) * GONE + gone];
            return waiting <= 0 ? staying : Math.min(staying, planPuttingOff(m, gone));
        }

        private long planPuttingOff(int m, int gone) {
            int nowGone = gone + Math.min(came[m] - gone, most);
            int back = m + trip;
            long waits = sums[back] - sums[m] - trip * nowGone;
            long then = back < minutes ? best[back * GONE + nowGone] : waitsAfterLast(came[back] - nowGone) * ONE_WAIT;
            return (1L << m) + waits * ONE_WAIT + then;
        }

        /** What they wait from when the boat is there behind the last minute, and goes to and fro for all. */
        private long waitsAfterLast(int waiting) {
            long rounds = waiting > 0 ? (waiting - 1) / most : 0;
            return trip * (rounds * waiting - most * (rounds * (rounds + 1) / 2));
        }
    }

    /** The landings, the paths between them, and the least minutes from each to each. */
    private static final class Landings {
        static final int ALL = 10, PAIRS = 100, OVER = 5, FAR = 1000000, NO_WAY_LOSES = 100;

        final int[] paths = new int[PAIRS];
        final int[] keptPaths = new int[PAIRS];
        final int[] now = new int[PAIRS];
        final int[] then = new int[PAIRS];

        /** Whether a number tells two unlike landings. */
        static boolean areTwo(int landings) {
            return landings >= 0 && landings < PAIRS && landings / ALL != landings % ALL;
        }

        private static int turned(int landings) {
            return landings % ALL * ALL + landings / ALL;
        }

        int takePath(int landings, int minutes) {
            int was = paths[landings];
            paths[landings] = minutes;
            paths[turned(landings)] = minutes;
            return was;
        }

        int leastWay(int landings, Crossing[] crossings, int count) {
            measure(now, crossings, count);
            return now[landings];
        }

        void measureNow(Crossing[] crossings, int count) {
            measure(now, crossings, count);
        }

        void measureThen(Crossing[] crossings, int count) {
            measure(then, crossings, count);
        }

        private void measure(int[] ways, Crossing[] crossings, int count) {
            for (int i = 0; i < PAIRS; i++) {
                ways[i] = i / ALL == i % ALL ? 0 : paths[i] > 0 ? paths[i] : FAR;
            }
            for (int i = 0; i < count; i++) {
                Crossing c = crossings[i];
                if (c.isOpen != 0) {
                    ways[c.landings] = Math.min(ways[c.landings], OVER);
                    ways[turned(c.landings)] = ways[c.landings];
                }
            }
            for (int by = 0; by < ALL; by++) {
                for (int i = 0; i < PAIRS; i++) {
                    int round = ways[i / ALL * ALL + by] + ways[by * ALL + i % ALL];
                    ways[i] = Math.min(ways[i], round);
                }
            }
        }

        /** How many more minutes the ways then need than the ways now, each pair once. */
        int lostMinutes() {
            int sum = 0;
            for (int i = 0; i < PAIRS; i++) {
                if (i / ALL < i % ALL && now[i] < FAR) {
                    sum += then[i] < FAR ? then[i] - now[i] : NO_WAY_LOSES;
                }
            }
            return sum;
        }

        void keep() {
            System.arraycopy(paths, 0, keptPaths, 0, PAIRS);
        }

        void comeBack() {
            System.arraycopy(keptPaths, 0, paths, 0, PAIRS);
        }
    }
}
