import java.util.ArrayList;
import java.util.Collections;
import java.util.List;
import java.util.Random;

/** Runs of calls by a seeded chance, each answer compared with what the oracle answers. */
public final class OracleTest {
    private final Random random;
    private final LeagueLevels x = new LeagueLevels();
    private final Oracle o = new Oracle();
    private final String run;
    private int calls = 0;
    private static final int[] TALLY = new int[40];

    private OracleTest(int seed) {
        random = new Random(seed);
        run = "run " + seed + ": ";
    }

    public static void main(String[] args) {
        int runs = args.length > 0 ? Integer.parseInt(args[0]) : 1500;
        int first = args.length > 1 ? Integer.parseInt(args[1]) : 0;
        for (int seed = first; seed < first + runs; seed++) {
            new OracleTest(seed).go();
        }
        System.out.println("pyramids " + TALLY[0] + ", with a fault " + TALLY[1] + ", days " + TALLY[2]
                + ", with a fault " + TALLY[3] + ", closes " + TALLY[4] + ", that can't be " + TALLY[5]
                + ", undone " + TALLY[6]);
        // A run that never gets anywhere would prove nothing.
        for (int i = 0; i <= 6; i++) {
            Check.due("tally " + i + " is enough", TALLY[i] >= runs / 3, true);
        }
        Check.finish();
    }

    private int below(int n) {
        return random.nextInt(n);
    }

    private boolean chance(int percent) {
        return below(100) < percent;
    }

    private void same(String call, long got, long want) {
        calls++;
        Check.due(run + calls + " " + call, got, want);
    }

    private void go() {
        tellPyramid(true);
        while (calls < 512) {
            step();
        }
    }

    private void step() {
        int k = below(100);
        if (k < 12) {
            tellDay();
        } else if (k < 13) {
            tellPyramid(chance(60));
        } else if (k < 15) {
            int got = x.close();
            TALLY[got < 0 ? 5 : 4]++;
            same("close()", got, o.close());
        } else if (k < 18) {
            boolean got = x.undo();
            TALLY[6] += got ? 1 : 0;
            same("undo()", got ? 1 : 0, o.undo() ? 1 : 0);
        } else if (k < 30) {
            deed();
        } else if (k < 31) {
            name();
        } else if (k < 33) {
            tape();
        } else {
            ask(below(24));
        }
    }

    private int someClub() {
        return below(o.s.clubs.size() + 3) - 1;
    }

    private int someLevel() {
        return chance(92) && o.s.levels.size() > 0 ? below(o.s.levels.size()) : below(7) - 2;
    }

    private int someDivision(int level) {
        return o.isLevel(level) && chance(92) ? below(o.s.levels.get(level).divisions()) : below(6) - 2;
    }

    private void deed() {
        int c = someClub();
        int k = below(9);
        if (k < 2) {
            same("resign(" + c + ")", x.resign(c) ? 1 : 0, o.resign(c) ? 1 : 0);
        } else if (k < 4) {
            same("refuse(" + c + ")", x.refuse(c) ? 1 : 0, o.refuse(c) ? 1 : 0);
        } else if (k < 6) {
            int n = chance(70) ? 1 + below(6) : chance(80) ? 90 + below(12) : below(3) - 2;
            int times = n > 89 ? 1 + below(12) : 1;
            for (int i = 0; i < times && calls < 512; i++) {
                same("deduct(" + c + ", " + n + ")", x.deduct(c, n) ? 1 : 0, o.deduct(c, n) ? 1 : 0);
            }
        } else {
            int g = below(12) - 1;
            same("grade(" + c + ", " + g + ")", x.grade(c, g) ? 1 : 0, o.grade(c, g) ? 1 : 0);
        }
    }

    private void tape() {
        int n = below(60) - 5;
        if (chance(50)) {
            same("end(" + n + ")", x.end(n) ? 1 : 0, o.end(n) ? 1 : 0);
        } else {
            int[] w = {random.nextInt(), random.nextInt(), random.nextInt(), random.nextInt(), random.nextInt()};
            same("feed", x.feed(w[0], w[1], w[2], w[3], w[4]), o.feed(w));
        }
    }

    private void name() {
        if (o.s.clubs.isEmpty()) {
            return;
        }
        String blanks = "\n ".substring(below(2), 1 + below(2));
        String name = o.s.clubs.get(below(o.s.clubs.size())).name;
        String text = blanks + (chance(80) ? name : mutate(name)) + (chance(50) ? " \n" : "");
        if (chance(70)) {
            same("end(0)", x.end(0) ? 1 : 0, o.end(0) ? 1 : 0);
        }
        tell(text);
        same("named() of " + text, x.named(), o.named());
    }

    private void tell(String text) {
        int before = o.look(7);
        StringBuilder padded = new StringBuilder(text);
        while (padded.length() % 20 != 0) {
            padded.append((char) below(256));
        }
        for (int i = 0; i < padded.length(); i += 20) {
            int[] w = Check.words(padded.substring(i, i + 20));
            same("feed", x.feed(w[0], w[1], w[2], w[3], w[4]), o.feed(w));
        }
        int n = before + text.length();
        same("end(" + n + ")", x.end(n) ? 1 : 0, o.end(n) ? 1 : 0);
    }

    private String mutate(String text) {
        StringBuilder b = new StringBuilder(text);
        String signs = "abinofgrade0123456789999;;--  \n\tZ{`/:" + (char) 0 + (char) 233;
        for (int times = 1 + below(2); times > 0; times--) {
            int at = below(b.length() + 1);
            char c = signs.charAt(below(signs.length()));
            int k = below(4);
            if (k == 0 && at < b.length()) {
                b.deleteCharAt(at);
            } else if (k == 1 && at < b.length()) {
                b.setCharAt(at, c);
            } else if (k == 2) {
                b.insert(at, c);
            } else if (chance(25)) {
                b.setLength(at);
            }
        }
        return b.toString();
    }

    private String gap() {
        return chance(85) ? "" : chance(50) ? " " : "\n";
    }

    private String newName(List<String> used) {
        String[] odd = {"lev", "levels", "clubs", "i", "inn", "o", "grades", "zzzzzzz", "downs", "needed"};
        for (int i = 0; i < 1000; i++) {
            StringBuilder b = new StringBuilder();
            for (int n = chance(70) ? 1 : 1 + below(3); n > 0; n--) {
                b.append((char) ('a' + below(26)));
            }
            String name = chance(3) ? odd[below(odd.length)] : b.toString();
            if (!used.contains(name) && !Oracle.KEYWORDS.contains(name)) {
                used.add(name);
                return name;
            }
        }
        return "x";
    }

    private String somePyramid() {
        StringBuilder b = new StringBuilder();
        List<String> places = new ArrayList<>();
        int levels = chance(5) ? below(6) : 1 + below(4);
        int left = chance(90) ? 30 : 40;
        int made = 0;
        for (int l = 0; l < levels; l++) {
            int divisions = 1 + below(3);
            int size = 2 + below(chance(50) ? 5 : 3);
            if (divisions * size > 12 && chance(97) || divisions * size > left) {
                divisions = 1;
                size = 2;
            }
            if (divisions * size > left) {
                break;
            }
            left -= divisions * size;
            b.append("level").append(gap()).append(divisions).append(gap()).append("of").append(size).append(gap());
            b.append("down").append(below(chance(70) ? 3 : 7)).append("need").append(below(chance(80) ? 6 : 10));
            b.append(gap()).append(";");
            for (int i = 0; i < divisions * size; i++) {
                places.add("in" + made + " " + i % divisions);
            }
            made++;
        }
        Collections.shuffle(places, random);
        int waiting = below(Math.max(1, Math.min(left, 10)));
        for (int i = 0; i < waiting; i++) {
            places.add(below(places.size() + 1), "");
        }
        List<String> used = new ArrayList<>();
        int wide = new int[] {4, 10, 10, 100}[below(4)];
        for (String place : places) {
            b.append("club ").append(newName(used)).append(gap()).append(below(wide)).append(' ');
            b.append(below(wide)).append(gap()).append("grade").append(below(10)).append(place);
            b.append(gap()).append(";");
        }
        return b.toString();
    }

    private void tellPyramid(boolean sound) {
        if (o.look(7) > 0 && calls < 512) {
            same("end(0)", x.end(0) ? 1 : 0, o.end(0) ? 1 : 0);
        }
        String text = somePyramid();
        for (int i = 0; i < 50 && text.length() > 700 && chance(97); i++) {
            text = somePyramid();
        }
        tell(sound ? text : mutate(text));
        int got = x.pyramid();
        TALLY[got < 0 ? 1 : 0]++;
        same("pyramid()", got, o.pyramid());
        same("fault(0)", x.fault(0), o.fault(0));
        same("fault(1)", x.fault(1), o.fault(1));
    }

    private void tellDay() {
        if (o.s.clubs.isEmpty()) {
            return;
        }
        if (chance(90) && o.look(7) > 0) {
            same("end(0)", x.end(0) ? 1 : 0, o.end(0) ? 1 : 0);
        }
        StringBuilder b = new StringBuilder();
        int matches = below(chance(60) ? 9 : 3);
        for (int i = 0; i < matches; i++) {
            int home = below(o.s.clubs.size());
            for (int k = 0; k < 30 && o.player(home) == null && chance(98); k++) {
                home = below(o.s.clubs.size());
            }
            int away = below(o.s.clubs.size());
            if (o.player(home) != null && chance(99)) {
                List<Integer> near = o.neighbours(home);
                for (int k = 0; k < 20; k++) {
                    away = near.get(below(near.size()));
                    String pair = o.s.clubs.get(home).name + ">" + o.s.clubs.get(away).name;
                    if (o.match(home, away, 0) < 0 && b.indexOf(pair) < 0) {
                        break;
                    }
                }
            }
            int most = chance(90) ? 4 : 103;
            b.append(o.s.clubs.get(home).name).append(gap()).append(below(most)).append(gap()).append("-");
            b.append(gap()).append(below(most)).append(gap()).append(o.s.clubs.get(away).name).append(gap()).append(";");
        }
        tell(chance(93) ? b.toString() : mutate(b.toString()));
        int got = x.day();
        TALLY[got < 0 ? 3 : 2]++;
        same("day() of " + b, got, o.day());
        same("fault(0)", x.fault(0), o.fault(0));
        same("fault(1)", x.fault(1), o.fault(1));
    }

    private void ask(int k) {
        int c = someClub();
        int c2 = someClub();
        int l = someLevel();
        int d = someDivision(l);
        int w = chance(94) ? below(8) : below(12) - 3;
        int i = below(14) - 2;
        switch (k) {
            case 0 -> same("fault(" + w + ")", x.fault(w), o.fault(w));
            case 1 -> same("club(" + c + ", " + w + ")", x.club(c, w), o.club(c, w));
            case 2 -> same("of(" + c + ", " + w + ")", x.of(c, w), o.of(c, w));
            case 3 -> same("points(" + c + ")", x.points(c), o.points(c));
            case 4 -> same("average(" + c + ")", x.average(c), o.average(c));
            case 5 -> same("ranked(" + l + ", " + d + ", " + i + ")", x.ranked(l, d, i), o.ranked(l, d, i));
            case 6 -> same("order(" + l + ", " + i + ")", x.order(l, i), o.order(l, i));
            case 7 -> same("level(" + l + ", " + w + ")", x.level(l, w), o.level(l, w));
            case 8, 9 -> {
                int what = chance(94) ? below(4) : below(8) - 2;
                int n = chance(60) ? below(3) : below(16) - 3;
                same("moves(" + l + ", " + what + ", " + n + ")", x.moves(l, what, n), o.moves(l, what, n));
            }
            case 10 -> same("would(" + c + ")", x.would(c), o.would(c));
            case 11 -> same("needs(" + c + ")", x.needs(c), o.needs(c));
            case 12 -> same("parted(" + c + ")", x.parted(c), o.parted(c));
            case 13 -> {
                int what = chance(94) ? below(3) : below(8) - 2;
                same("swap(" + l + ", " + what + ")", x.swap(l, what), o.swap(l, what));
            }
            case 14 -> same("middle(" + l + ")", x.middle(l), o.middle(l));
            case 15 -> same("rest(" + l + ", " + d + ")", x.rest(l, d), o.rest(l, d));
            case 16 -> {
                int what = chance(94) ? below(2) : below(5) - 2;
                if (!o.s.matches.isEmpty() && chance(60)) {
                    Oracle.Match m = o.s.matches.get(below(o.s.matches.size()));
                    c = m.home();
                    c2 = m.away();
                }
                same("match(" + c + ", " + c2 + ", " + what + ")", x.match(c, c2, what), o.match(c, c2, what));
            }
            case 17 -> same("above(" + c + ")", x.above(c), o.above(c));
            case 18 -> same("journeys(" + c + ")", x.journeys(c), o.journeys(c));
            case 19 -> same("nearest(" + c + ")", x.nearest(c), o.nearest(c));
            case 20 -> {
                if (o.player(c) != null && chance(60)) {
                    c2 = o.neighbours(c).get(0);
                }
                same("versus(" + c + ", " + c2 + ")", x.versus(c, c2), o.versus(c, c2));
            }
            case 21 -> same("strangers(" + l + ")", x.strangers(l), o.strangers(l));
            case 22 -> {
                same("show(" + l + ", " + d + ")", x.show(l, d), o.show(l, d));
                int n = below(30) - 2;
                same("out(" + n + ")", x.out(n), o.out(n));
            }
            default -> same("look(" + w + ")", x.look(w), o.look(w));
        }
    }
}
