/** Terms 1 (THE TAPE, TEXTS, TAKES) and promises 7 to 11: each sentence that names a bound, and what lies on both sides of it. */
final class BoundsOfTextsTest {
    private static final int FAR = Integer.MAX_VALUE, FAR_BELOW = Integer.MIN_VALUE;
    private static final String AHEAD = "load 1;price 1;turn ";

    public static void main(String[] args) {
        oneToEightBytes();
        lowestBytesAlone();
        tapeOf160Bytes();
        textOf160Bytes();
        tapeIsEmptyThen();
        blanksAre32And10();
        bytesThatBeginNone();
        wordsAsLongAsCanBe();
        numbersOfFourDigits();
        endsTooEarly();
        nothingBehind();
        fiveOpen();
        openTillWhatTheyBelongToEnds();
        sixTextsAtMost();
        forceATextThatIs();
        wrapping();
        trueOrNot();
        firstRule();
        loadFrom1To14();
        priceFrom0To99();
        namesOfLoad();
        namesOfPrice();
        namesOfTurn();
        loadRefusals();
        takesRoundedUp();
        takesRefusals();
        Check.end();
    }

    /** Promise 7: "BAD: n is not 1 .. 8." */
    private static void oneToEightBytes() {
        int[] wrong = {FAR_BELOW, -1, 0, 9, 10, 64, 160, FAR};
        for (int n : wrong) {
            StandingUp x = new StandingUp();
            Check.due("feed " + n, -2, x.feed(n, 0));
            Check.due("nothing came", 0, x.count(6));
        }
        for (int n = 1; n <= 8; n++) {
            StandingUp x = new StandingUp();
            Check.due("feed " + n, n, x.feed(n, -1L));
            Check.due("feed " + n, 2 * n, x.feed(n, 0L));
            Check.due("so many", 2 * n, x.count(6));
        }
    }

    /** "The n lowest bytes of a number, the lowest first, come behind THE TAPE" */
    private static void lowestBytesAlone() {
        String begin = "load 1;x";
        long all = 0;
        for (int k = 7; k >= 0; k--) {
            all = all << 8 | begin.charAt(k);
        }
        for (int n = 1; n <= 8; n++) {
            StandingUp x = new StandingUp();
            Check.due("feed", n, x.feed(n, all));
            Check.due("the text of " + n + " bytes", n == 8 ? -107 : n < 4 ? -100 : -100 - n, x.text());
        }
        StandingUp x = new StandingUp();
        x.feed(4, all | -1L << 32);
        x.feed(3, all >>> 32);
        Check.due("behind what stood there", 7, x.count(6));
        x.feed(8, 0x31206563697270L | 0x3BL << 56);
        x.feed(7, 0x3B31206E727574L);
        Check.due("a text of three", 1, x.text());
        // the eighth byte may be above 127
        StandingUp y = new StandingUp();
        y.feed(8, 0x8020202020202020L);
        Check.due("a byte of 128", -107, y.text());
        y.feed(8, -1L);
        Check.due("bytes of 255", -100, y.text());
    }

    /** "THE TAPE (160 bytes at most)"; promise 7: "FULL." */
    private static void tapeOf160Bytes() {
        for (int n = 1; n <= 8; n++) {
            StandingUp x = new StandingUp();
            int size = 0;
            while (size + n <= 160) {
                size += n;
                Check.due("feed " + n, size, x.feed(n, 0x2020202020202020L));
            }
            Check.due("full for " + n, -4, x.feed(n, 0x2020202020202020L));
            Check.due("and stays", size, x.count(6));
            Check.due("bad ahead of full", -2, x.feed(0, 0));
            Check.due("bad ahead of full", -2, x.feed(9, 0));
            for (int more = size + 1; more <= 160; more++) {
                Check.due("one more", more, x.feed(1, 0x20));
            }
            Check.due("full for one", -4, x.feed(1, 0));
            Check.due("160", 160, x.count(6));
            Check.due("blanks end too early", -260, x.text());
        }
    }

    /** A TEXT may take the whole of THE TAPE, and have as many tokens as it has bytes, but for its three words. */
    private static void textOf160Bytes() {
        String sum = AHEAD + "1" + "+1".repeat(69) + ";";
        Check.due("160 bytes", 160, sum.length());
        StandingUp x = Check.withCrossings(1);
        x.rower(0, 2000, -1);
        Check.due("a text of 160 bytes", 1, Check.text(x, sum));
        Check.due("a text of 160 bytes", 2, Check.text(x, AHEAD + "1" + "-1".repeat(69) + ";"));
        Check.due("a fault in the last byte", -259, Check.text(x, AHEAD + "1" + "+1".repeat(68) + "; ;"));
        Check.due("160 bytes, and no end", -260, Check.text(x, AHEAD + "10" + "+1".repeat(69)));
        Check.due("brackets", 3, Check.text(x, AHEAD + "(1)" + "+(1)".repeat(34) + ";"));
        int[] due = {70, -68, 35};
        for (int i = 0; i < 3; i++) {
            x.force(1 + i);
            Check.due("turn", due[i], x.told(0, 9, 10));
        }
    }

    /** Promise 8: "THE TAPE, which is empty then (by a FAULT, too), is a TEXT" */
    private static void tapeIsEmptyThen() {
        StandingUp x = new StandingUp();
        Check.due("an empty tape", -100, x.text());
        Check.due("a text", 1, Check.text(x, AHEAD + "1;"));
        Check.due("empty", 0, x.count(6));
        Check.due("an empty tape", -100, x.text());
        Check.due("a fault", -101, Check.text(x, " x"));
        Check.due("empty", 0, x.count(6));
        Check.due("an empty tape", -100, x.text());
        Check.due("a text", 2, Check.text(x, AHEAD + "2;"));
        Check.due("feed from 0", 1, x.feed(1, 0));
    }

    /** "blanks (32, 10) may stand between" */
    private static void blanksAre32And10() {
        for (int sign = 0; sign < 256; sign++) {
            boolean blank = sign == 32 || sign == 10;
            // behind a number a digit goes on with it, these signs join it, and a ; ends its part
            if (";+-*<=0123456789".indexOf((char) sign) >= 0) {
                continue;
            }
            StandingUp x = new StandingUp();
            Check.due("byte " + sign + " ahead", blank ? 1 : -100, Check.text(x, (char) sign + AHEAD + "1;"));
            Check.due("byte " + sign + " behind", blank ? 2 : -122, Check.text(x, AHEAD + "1;" + (char) sign));
            Check.due("byte " + sign + " between", blank ? 3 : -121, Check.text(x, AHEAD + "1" + (char) sign + ";"));
        }
        StandingUp x = new StandingUp();
        Check.due("no blank where none is needed", 1, Check.text(x, "load(1);price(1);turn(1);"));
        Check.due("many of them", 2, Check.text(x, "\n\n  load \n 1 \n; \nprice\n1\n;\nturn\n1 ; \n\n"));
        Check.due("a blank within a word", -100, Check.text(x, "lo ad 1;"));
        Check.due("a blank within a name", -105, Check.text(x, "load ti de;"));
        Check.due("a blank within a number", -107, Check.text(x, "load 1 2;"));
    }

    /** FAULT: "also of a byte that begins none" */
    private static void bytesThatBeginNone() {
        String begin = "();+-*<= \n;0123456789abcdefghijklmnopqrstuvwxyz";
        for (int sign = 0; sign < 256; sign++) {
            if (begin.indexOf((char) sign) < 0) {
                StandingUp x = new StandingUp();
                Check.due("byte " + sign + " as one", -105, Check.text(x, "load " + (char) sign + ";"));
                Check.due("byte " + sign + " behind one", -107, Check.text(x, "load 1 " + (char) sign + ";"));
                Check.due("byte " + sign + " close by", -106, Check.text(x, "load 1" + (char) sign + ";"));
                Check.due("byte " + sign + " at the end", -105, Check.text(x, "load " + (char) sign));
            }
        }
    }

    /** "TOKENS, each as long as can be: WORDS (a .. z)"; FAULT: "a WORD that is neither KEY nor NAME" */
    private static void wordsAsLongAsCanBe() {
        String[] names = {"heads", "tide", "wash", "age", "hour", "turns"};
        String[] keys = {"load", "price", "turn", "or", "and", "not"};
        for (String name : names) {
            StandingUp x = new StandingUp();
            Check.due(name, 1, Check.text(x, AHEAD + name + ";"));
            Check.due("more than " + name, -120, Check.text(x, AHEAD + name + "a;"));
            Check.due("twice " + name, -120, Check.text(x, AHEAD + name + name + ";"));
            Check.due("less than " + name, -120, Check.text(x, AHEAD + name.substring(0, name.length() - 1) + ";"));
            Check.due("the end of " + name, -120, Check.text(x, AHEAD + name.substring(1) + ";"));
            Check.due(name + " and digits", -120 - name.length(), Check.text(x, AHEAD + name + "1;"));
            Check.due("digits and " + name, -121, Check.text(x, AHEAD + "1" + name + ";"));
            Check.due("a great " + name, -120, Check.text(x, AHEAD + (char) (name.charAt(0) - 32) + name.substring(1)));
            Check.due(name + " is no key", -100, Check.text(x, name + " 1;price 1;turn 1;"));
        }
        for (String key : keys) {
            StandingUp x = new StandingUp();
            int due = key.equals("not") ? -123 : -120;
            Check.due(key + " is no name", due, Check.text(x, AHEAD + key + ";"));
            Check.due("more than " + key, -120, Check.text(x, AHEAD + key + "z;"));
        }
        StandingUp x = new StandingUp();
        Check.due("a word as long as the tape", -100, Check.text(x, "a".repeat(160)));
        Check.due("a word up to the end", -105, Check.text(x, "load " + "z".repeat(155)));
    }

    /** "NUMBERS (as many digits as stand there, 4 at most)"; FAULT: "a NUMBER that is too long" */
    private static void numbersOfFourDigits() {
        StandingUp x = Check.withCrossings(1);
        x.rower(0, 2000, -1);
        String[] right = {"0", "9", "10", "999", "1000", "9999", "0000", "0009"};
        int[] due = {0, 9, 10, 999, 1000, 9999, 0, 9};
        for (int i = 0; i < right.length; i++) {
            StandingUp y = Check.withCrossings(1);
            y.rower(0, 2000, -1);
            y.force(Check.text(y, AHEAD + right[i] + ";"));
            Check.due("number " + right[i], due[i], y.told(0, 9, 10));
        }
        String[] wrong = {"10000", "99999", "00000", "00001", "1234567890", "4294967297", "1".repeat(140)};
        for (String number : wrong) {
            Check.due("number " + number, -120, Check.text(x, AHEAD + number));
            Check.due("number " + number, -120, Check.text(x, AHEAD + number.substring(0, 5) + ";"));
        }
        Check.due("no text came", 1, x.count(5));
    }

    /** FAULT: "the text's size, if it ends too early" */
    private static void endsTooEarly() {
        String text = "load 14-tide;price not heads;turn(0-turns)*2;";
        for (int size = 0; size < text.length(); size++) {
            boolean inWord = size > 0 && Character.isLetter(text.charAt(size)) && Character.isLetter(text.charAt(size - 1));
            if (!inWord) {
                StandingUp x = new StandingUp();
                Check.due("ends at " + size, -100 - size, Check.text(x, text.substring(0, size)));
                Check.due("ends at " + size + ", blanks", -103 - size, Check.text(x, text.substring(0, size) + " \n "));
            }
        }
        Check.due("whole", 1, Check.text(new StandingUp(), text));
        Check.due("a blank alone", -101, Check.text(new StandingUp(), " "));
    }

    /** "TEXT: load E ; price E ; turn E ;": nothing stands behind, nothing is left out. */
    private static void nothingBehind() {
        String[] behind = {"(", ")", ";", "+", "-", "*", "<", "=", "1", "12345", "tide", "or", "not", "load", "zz"};
        StandingUp x = new StandingUp();
        for (String token : behind) {
            Check.due("behind: " + token, -122, Check.text(x, AHEAD + "1;" + token));
        }
        Check.due("no load", -100, Check.text(x, "price 1;turn 1;"));
        Check.due("no price", -107, Check.text(x, "load 1;turn 1;"));
        Check.due("no turn", -115, Check.text(x, "load 1;price 1;;"));
        Check.due("no ;", -107, Check.text(x, "load 1 price 1;"));
        Check.due("no E", -105, Check.text(x, "load ;"));
        Check.due("two < in a NOT", -123, Check.text(x, AHEAD + "1<2<3;"));
        Check.due("< and =", -123, Check.text(x, AHEAD + "1<2=3;"));
        Check.due("one in brackets", 1, Check.text(x, AHEAD + "(1<2)<3;"));
        Check.due("not behind <", -122, Check.text(x, AHEAD + "1<not 1;"));
        Check.due("not behind -", -121, Check.text(x, AHEAD + "-not 1;"));
        Check.due("not behind and", 2, Check.text(x, AHEAD + "1 and not 1;"));
        Check.due("not in brackets", 3, Check.text(x, AHEAD + "1<(not 1);"));
    }

    private static void depth(String opening, String closing) {
        String five = opening.repeat(5), six = opening.repeat(6);
        Check.due("five of " + opening, 1, Check.text(new StandingUp(), AHEAD + five + "1" + closing.repeat(5) + ";"));
        int place = 20 + 5 * opening.length();
        Check.due("six of " + opening, -100 - place, Check.text(new StandingUp(), AHEAD + six + "1" + closing.repeat(6) + ";"));
        Check.due("six of " + opening + " in load", -105 - 5 * opening.length(), Check.text(new StandingUp(), "load " + six));
    }

    private static void turnReads(String expression) {
        Check.due(expression, 1, Check.text(new StandingUp(), AHEAD + expression + ";"));
    }

    /** The fault of a turn, told from the first byte of the expression on. */
    private static void turnFaultAt(int place, String expression) {
        Check.due(expression, -100 - 20 - place, Check.text(new StandingUp(), AHEAD + expression + ";"));
    }

    /** FAULT: "a ( , a not, a - ahead of a ONE while 5 of these are open" */
    private static void fiveOpen() {
        depth("(", ")");
        depth("-", "");
        depth("not ", "");
        turnReads("not(-(-1))");
        turnFaultAt(7, "not(-(-(1)))");
        turnFaultAt(7, "not(-(--1))");
        turnFaultAt(10, "not(-(not not 1))");
        turnReads("(-(-(1)))");
        turnFaultAt(5, "(-(-((1))))");
        turnFaultAt(5, "(-(-(-1)))");
        turnFaultAt(5, "(-(-(not 1)))");
        // a - between two TERMS is none of these
        turnReads("(-(-(1-1)))");
    }

    /** "(a ( till its ) , not and - till what they belong to ends)" */
    private static void openTillWhatTheyBelongToEnds() {
        turnReads("(((((1)))))+(((((1)))))");
        turnReads("(((((1))))+((((1)))))");
        turnFaultAt(15, "(((((1))))+(((((1))))))");
        // a - till its ONE ends
        turnReads("-----1+-----1*-----1<-----1");
        turnReads("-(((-1+-1)))*-----1");
        turnFaultAt(8, "-(((-1+--1)))");
        // a not till its NOT ends: over sums and a < or a =, up to an and, an or, a )
        turnReads("not not not 1+--1");
        turnFaultAt(16, "not not not 1+---1");
        turnReads("not not not 1+1=--1");
        turnFaultAt(18, "not not not 1+1=---1");
        turnFaultAt(19, "not not not not 1<-(1)");
        turnReads("not not not not not 1 or not not not not not 1");
        turnReads("not not not not 1 and(((((1)))))");
        turnReads("(not not not not 1)+(((((1)))))");
    }

    /** "There are 6 TEXTS at most, TEXT 0 with them"; promise 8: "FULL (ahead of all) .. (THE TAPE stays)" */
    private static void sixTextsAtMost() {
        StandingUp x = new StandingUp();
        Check.due("text 0", 1, x.count(5));
        for (int i = 1; i < 6; i++) {
            Check.due("a fault takes no room", -100, Check.text(x, ";"));
            Check.due("text", i, Check.text(x, "load " + i + ";price " + i + ";turn " + i + ";"));
            Check.due("so many", i + 1, x.count(5));
        }
        Check.due("full, of an empty tape", -4, x.text());
        Check.due("full, of a right one", -4, Check.text(x, AHEAD + "1;"));
        Check.due("the tape stays", 22, x.count(6));
        Check.due("full, of a fault", -4, Check.text(x, "?"));
        Check.due("the tape stays", 23, x.count(6));
        Check.due("full again", -4, x.text());
        Check.due("the tape goes on", 24, x.feed(1, 0));
        Check.due("six", 6, x.count(5));
        for (int i = 5; i > 0; i--) {
            x.force(i);
            Check.due("each is its own", i, x.load(0, -1, 0));
        }
    }

    /** Promise 9: "which was. BAD." */
    private static void forceATextThatIs() {
        StandingUp x = new StandingUp();
        int[] wrong = {FAR_BELOW, -1, 1, 5, 6, FAR};
        for (int text : wrong) {
            Check.due("force " + text, -2, x.force(text));
        }
        Check.due("the rule", 0, x.count(7));
        for (int i = 1; i < 6; i++) {
            Check.due("one that hasn't come", -2, x.force(i));
            Check.text(x, AHEAD + "1;");
            Check.due("one that has come", i - 1, x.force(i));
            Check.due("the rule", i, x.count(7));
        }
        Check.due("behind the last", -2, x.force(6));
        Check.due("itself", 5, x.force(5));
    }

    private static int value(String expression) {
        StandingUp x = Check.withCrossings(1);
        x.rower(0, 2000, -1);
        Check.due(expression, 1, Check.text(x, AHEAD + expression + ";"));
        x.force(1);
        return x.told(0, 9, 10);
    }

    /** "An E is an int (32 bits, wrapping)" */
    private static void wrapping() {
        Check.due("2 to 31", FAR_BELOW, value("8192*8192*32"));
        Check.due("2 to 31 less 1", FAR, value("8192*8192*32-1"));
        Check.due("and 1 more", FAR_BELOW, value("8192*8192*32-1+1"));
        Check.due("2 to 31 of the other sign", FAR_BELOW, value("-(8192*8192*32)"));
        Check.due("0 less 2 to 31", FAR_BELOW, value("0-8192*8192*32"));
        Check.due("2 to 32", 0, value("8192*8192*64"));
        Check.due("2 to 32 and 5", 5, value("8192*8192*64+5"));
        Check.due("a wrapped one is less", 1, value("8192*8192*32<0"));
        Check.due("than its neighbour, too", 1, value("8192*8192*32<8192*8192*32-1"));
        Check.due("and is not true, if it is 0", 1, value("not 8192*8192*64"));
        Check.due("but true if it isn't", 1, value("8192*8192*32 and 1"));
        Check.due("of three", (int) (9999L * 9999 * 9999), value("9999*9999*9999"));
    }

    /** "of or, and, not, <, = 1 or 0 (what is not 0 is true)" */
    private static void trueOrNot() {
        Check.due("or", 1, value("7 or 0"));
        Check.due("or", 1, value("0 or -7"));
        Check.due("or", 0, value("0 or 0"));
        Check.due("and", 1, value("-1 and 2"));
        Check.due("and", 0, value("7 and 0"));
        Check.due("and", 0, value("0 and 7"));
        Check.due("not", 0, value("not -1"));
        Check.due("not", 1, value("not 0"));
        Check.due("not not", 1, value("not not 9"));
        Check.due("<", 0, value("3<3"));
        Check.due("<", 1, value("3<4"));
        Check.due("<", 0, value("4<3"));
        Check.due("<", 1, value("-4<-3"));
        Check.due("=", 1, value("3=3"));
        Check.due("=", 0, value("3=-3"));
        Check.due("alone", 7, value("7"));
        Check.due("in brackets", -7, value("((-7))"));
    }

    /** "TEXT 0, at first THE RULE, is: load 14 - tide ; price 10 - heads * 8 ; turn 0 - turns ;" */
    private static void firstRule() {
        StandingUp x = Check.withCrossings(1);
        Check.due("the rule", 0, x.count(7));
        for (int tide = 0; tide < 10; tide++) {
            x.set(0, tide);
            Check.due("load", 14 - tide, x.load(999, -1, 0));
        }
        Check.due("a local", 1, x.box(1001, 0, 2, 0));
        Check.due("a stranger", 1, x.box(1001, 0, 10, 0));
        Check.due("nobody", 0, x.box(1001, 0, 0, 0));
        x.rower(0, 2000, -1);
        x.rower(0, 2000, -1);
        for (int turns = 0; turns < 3; turns++) {
            Check.due("turn", -turns, x.told(0, 9, 10));
            x.rowed(0, 9);
        }
    }

    private static int loadBy(String load) {
        StandingUp x = new StandingUp();
        x.force(Check.text(x, "load " + load + ";price 1;turn 1;"));
        return x.load(0, -1, 0);
    }

    /** "load: how many a boat may take (1 .. 14, else the bound)" */
    private static void loadFrom1To14() {
        String[] loads = {"0-9999*9999", "-1", "0", "1", "2", "13", "14", "15", "9999", "8192*8192*32", "8192*8192*32-1"};
        int[] due = {1, 1, 1, 1, 2, 13, 14, 14, 14, 1, 14};
        for (int i = 0; i < loads.length; i++) {
            Check.due("load " + loads[i], due[i], loadBy(loads[i]));
        }
    }

    private static void priceBy(String price, int due) {
        StandingUp x = new StandingUp();
        x.force(Check.text(x, "load 1;price " + price + ";turn 1;"));
        for (int coins = 0; coins <= 100; coins++) {
            Check.due("price " + price + " is " + coins, coins == due ? 2 : 0, x.box(1001, 0, coins, 0));
        }
    }

    /** "price: coins of one (0 .. 99, else the bound)" */
    private static void priceFrom0To99() {
        String[] prices = {"0-9999*9999", "-1", "0", "1", "98", "99", "100", "9999", "8192*8192*32", "8192*8192*32-1"};
        int[] due = {0, 0, 0, 1, 98, 99, 99, 99, 0, 99};
        for (int i = 0; i < prices.length; i++) {
            priceBy(prices[i], due[i]);
        }
    }

    /** "load: .. heads: how many wait; tide, wash; age: that of the elder of both who row (0: nobody asked); hour; turns 0" */
    private static void namesOfLoad() {
        StandingUp x = Check.withCrossings(1);
        x.rower(0, 1400, -1);
        x.rower(0, 9000, -1);
        x.rowed(0, 9);
        x.set(0, 3);
        x.set(1, 4);
        x.force(Check.text(x, "load 2+(heads=999)+(tide=3)*2+(wash=4)*4+(hour=23)*8-turns*99;price 1;turn 1;"));
        Check.due("heads, tide, wash", 9, x.load(999, 1, 0));
        Check.due("tide, wash", 8, x.load(0, 1, 0));
        Check.due("tide, wash, hour", 14, x.load(0, 1, 23));
        x.force(Check.text(x, "load 1+(age=0)*2+(age=14)*4+(age=90)*8;price 1;turn 1;"));
        Check.due("nobody asked", 3, x.load(0, -1, 0));
        Check.due("the elder is the other one", 9, x.load(0, 1, 0));
        Check.due("the elder is the one", 9, x.load(0, 20, 0));
        Check.due("one twice", 5, x.load(0, 0, 0));
    }

    /** "price: .. heads: 1 a local, 0 a stranger; tide, wash; age 0; hour; turns 0" */
    private static void namesOfPrice() {
        StandingUp x = Check.withCrossings(1);
        x.rower(0, 9000, -1);
        x.rower(0, 9000, -1);
        x.rowed(0, 9);
        x.load(5, 1, 9);
        x.told(0, 9, 10);
        x.set(0, 9);
        x.set(1, 9);
        x.force(Check.text(x, "load 1;price heads*40+tide+wash+hour+age*50+turns*50;turn 1;"));
        Check.due("a local at 23", 1, x.box(1001, 0, 81, 23));
        Check.due("a stranger at 23", 1, x.box(1001, 0, 41, 23));
        Check.due("a local at 0", 1, x.box(1001, 0, 58, 0));
        Check.due("a stranger at 0", 1, x.box(1001, 0, 18, 0));
    }

    /** "turn: .. heads 0; tide, wash; age; hour; turns: how many it had" */
    private static void namesOfTurn() {
        StandingUp x = Check.withCrossings(1);
        x.rower(0, 2100, -1);
        x.rower(0, 3200, -1);
        x.rower(0, 4300, -1);
        x.rowed(0, 9);
        x.set(0, 8);
        x.set(1, 7);
        x.set(20, 999);
        x.load(999, 1, 9);
        Check.text(x, AHEAD + "heads*9999*9999+tide*1000+wash*100+age+hour*9999+turns*9999*100;");
        x.force(1);
        int[] ages = {21, 32, 43};
        for (int rower = 0; rower < 3; rower++) {
            int turns = rower < 2 ? 1 : 0;
            Check.due("hour 0", 8700 + ages[rower] + 999900 * turns, x.told(rower, 0, 10));
            Check.due("hour 23", 8700 + ages[rower] + 999900 * turns + 9999 * 23, x.told(rower, 23, 10));
        }
        Check.text(x, AHEAD + "heads*age;");
        x.force(2);
        Check.due("no heads in a turn", 1, x.turn(0, 9));
        Check.text(x, AHEAD + "(turns=0)*tide*hour-wash;");
        x.force(3);
        Check.due("2 and 0", 2, x.turn(0, 9));
    }

    /** Promise 10: "load (heads 0 .. 999, rowers: 20 times the one and the other one, NONE: nobody asked). BAD." */
    private static void loadRefusals() {
        StandingUp x = Check.withCrossings(1);
        Check.due("of none at all", -2, x.load(0, 0, 0));
        x.rower(0, 2000, -1);
        x.rower(0, 2000, -1);
        int[] heads = {FAR_BELOW, -1, 0, 999, 1000, FAR};
        int[] hours = {FAR_BELOW, -1, 0, 23, 24, FAR};
        int[] rowers = {FAR_BELOW, -20, -2, -1, 0, 1, 2, 19, 20, 21, 22, 40, 41, 60, FAR};
        for (int h : heads) {
            Check.due("heads " + h, h == 0 || h == 999 ? 14 : -2, x.load(h, -1, 0));
        }
        for (int h : hours) {
            Check.due("hour " + h, h == 0 || h == 23 ? 14 : -2, x.load(0, 1, h));
        }
        for (int two : rowers) {
            boolean some = two == -1 || two == 0 || two == 1 || two == 20 || two == 21;
            Check.due("rowers " + two, some ? 14 : -2, x.load(0, two, 0));
        }
    }

    /** "TAKES: STROKES and twice WASH, together, by the sum of their PACES (rounded up)" */
    private static void takesRoundedUp() {
        int[] strokes = {1, 19, 20, 21, 39, 40, 41, 59, 60};
        int[] still = {1, 1, 1, 2, 2, 2, 3, 3, 3};
        int[] rough = {1, 2, 2, 2, 3, 3, 3, 4, 4};
        for (int i = 0; i < strokes.length; i++) {
            StandingUp x = new StandingUp();
            x.crossing(strokes[i], 12);
            x.rower(0, 2000, -1);
            x.rower(0, 2000, -1);
            Check.due("takes of " + strokes[i], still[i], x.takes(0, 1));
            x.set(1, 9);
            Check.due("takes of " + strokes[i] + " and 18", rough[i], x.takes(0, 1));
            x.set(0, 9);
            Check.due("the tide does not matter", rough[i], x.takes(0, 20));
        }
        StandingUp x = new StandingUp();
        x.crossing(42, 12);
        x.rower(3, 2090, -1);
        x.rower(3, 2090, -1);
        x.rower(5, 9000, -1);
        Check.due("two of 21", 1, x.takes(0, 1));
        Check.due("21 and 5", 2, x.takes(0, 2));
        x.set(1, 1);
        Check.due("a stroke too many", 2, x.takes(0, 1));
        x.set(1, 5);
        Check.due("just two", 2, x.takes(0, 22));
        x.set(1, 6);
        Check.due("more than two", 3, x.takes(0, 22));
    }

    /** Promise 11: "BAD (alike, too)." */
    private static void takesRefusals() {
        StandingUp x = Check.withCrossings(2);
        x.rower(0, 2000, -1);
        Check.due("of one alone", -2, x.takes(0, 0));
        x.rower(0, 2000, -1);
        int[] crossings = {FAR_BELOW, -1, 2, 7, FAR};
        for (int crossing : crossings) {
            Check.due("crossing " + crossing, -2, x.takes(crossing, 1));
        }
        int[] rowers = {FAR_BELOW, -21, -20, -2, -1, 0, 2, 19, 21, 22, 40, 41, 60, FAR};
        for (int two : rowers) {
            Check.due("rowers " + two, -2, x.takes(0, two));
        }
        Check.due("0 and 1", 1, x.takes(0, 1));
        Check.due("1 and 0", 1, x.takes(1, 20));
    }
}
