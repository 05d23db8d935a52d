/** Counts the answers that are not the due ones; every test ends by end(). */
final class Check {
    private static int asked = 0, wrong = 0;

    private Check() {
    }

    static void due(String call, long want, long got) {
        asked++;
        if (got != want) {
            wrong++;
            System.out.println(call + " answered " + got + ", due is " + want);
        }
    }

    /** A new object with some crossings of 10, 20, .. 60, 60 strokes, from landing 0 to 1, 1 to 2, .. */
    static StandingUp withCrossings(int n) {
        StandingUp x = new StandingUp();
        for (int i = 0; i < n; i++) {
            due("crossing", i, x.crossing(Math.min(60, 10 * i + 10), 10 * i + i + 1));
        }
        return x;
    }

    /** Puts a text on the tape, eight bytes a call. */
    static void feed(StandingUp x, String text) {
        for (int i = 0; i < text.length(); i += 8) {
            int n = Math.min(8, text.length() - i);
            long bytes = 0;
            for (int k = n - 1; k >= 0; k--) {
                bytes = bytes << 8 | text.charAt(i + k);
            }
            x.feed(n, bytes);
        }
    }

    static int text(StandingUp x, String text) {
        feed(x, text);
        return x.text();
    }

    /** A sheet of a sort with items. */
    static void row(StandingUp x, int sheet, int sort, int... items) {
        due("sheet", 1, x.sheet(sheet, sort, items.length));
        for (int i = 0; i < items.length; i++) {
            due("cell", 1, x.cell(sheet, i, items[i]));
        }
    }

    static void end() {
        System.out.println(asked + " answers, " + wrong + " not as due");
        if (wrong != 0) {
            System.exit(1);
        }
    }
}
