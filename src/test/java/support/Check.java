/** What the tests share: telling a text to an object, and counting answers that are not as due. */
final class Check {
    private static int wrong = 0;
    private static int asked = 0;

    private Check() {
    }

    static void due(String what, long got, long want) {
        asked++;
        if (got != want) {
            wrong++;
            if (wrong <= 40) {
                System.out.println(what + " answered " + got + ", due is " + want);
            }
        }
    }

    static void due(String what, boolean got, boolean want) {
        due(what, got ? 1 : 0, want ? 1 : 0);
    }

    static void due(String what, String got, String want) {
        asked++;
        if (!got.equals(want)) {
            wrong++;
            System.out.println(what + " answered '" + got + "', due is '" + want + "'");
        }
    }

    /** Puts a text behind the tape, byte by byte of its characters. */
    static void tell(LeagueLevels x, String text) {
        int before = x.look(7);
        StringBuilder padded = new StringBuilder(text);
        while (padded.length() % 20 != 0) {
            padded.append(' ');
        }
        for (int i = 0; i < padded.length(); i += 20) {
            int[] w = words(padded.substring(i, i + 20));
            if (x.feed(w[0], w[1], w[2], w[3], w[4]) < 0) {
                throw new IllegalStateException("the text is too long: " + text.length());
            }
        }
        x.end(before + text.length());
    }

    static int[] words(String twenty) {
        int[] w = new int[5];
        for (int k = 0; k < 20; k++) {
            w[k / 4] = w[k / 4] << 8 | twenty.charAt(k) & 255;
        }
        return w;
    }

    static LeagueLevels with(String pyramid) {
        LeagueLevels x = new LeagueLevels();
        tell(x, pyramid);
        if (x.pyramid() < 0) {
            throw new IllegalStateException("fault " + x.fault(0) + " at " + x.fault(1) + " of " + pyramid);
        }
        return x;
    }

    static void play(LeagueLevels x, String day) {
        tell(x, day);
        if (x.day() < 0) {
            throw new IllegalStateException("fault " + x.fault(0) + " at " + x.fault(1) + " of " + day);
        }
    }

    static String shown(LeagueLevels x, int level, int division) {
        int n = x.show(level, division);
        StringBuilder b = new StringBuilder();
        for (int i = 0; i < n; i++) {
            b.append((char) x.out(i));
        }
        return b.toString();
    }

    /** Who moves, as numbers with blanks between; "-" where the end can't be. */
    static String movers(LeagueLevels x, int level, int what) {
        int n = x.moves(level, what, -1);
        if (n < 0) {
            return "-";
        }
        StringBuilder b = new StringBuilder();
        for (int i = 0; i < n; i++) {
            b.append(i > 0 ? " " : "").append(x.moves(level, what, i));
        }
        due("moves past the last", x.moves(level, what, n), -1);
        return b.toString();
    }

    static String divisionsOf(LeagueLevels x, int level) {
        StringBuilder b = new StringBuilder();
        for (int d = 0; d < x.level(level, 0); d++) {
            b.append(d > 0 ? " | " : "");
            String gap = "";
            for (int c = 0; c < x.look(1); c++) {
                if (x.club(c, 3) == level && x.club(c, 4) == d) {
                    b.append(gap).append(c);
                    gap = " ";
                }
            }
        }
        return b.toString();
    }

    static void finish() {
        System.out.println(asked + " answers, " + wrong + " not as due");
        if (wrong > 0 || asked == 0) {
            System.exit(1);
        }
    }
}
