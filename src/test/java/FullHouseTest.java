import java.util.Random;

/**
 * As many levels, divisions, clubs and matches as there can be: every question is asked of them, within the 512 calls of
 * an object, and answered as by the oracle.
 */
public final class FullHouseTest {
    private static final int[][][] SHAPES = {
        {{2, 6}, {2, 6}, {1, 6}}, {{1, 6}, {3, 4}, {2, 6}}, {{3, 4}, {2, 2}, {1, 2}, {3, 2}}, {{1, 2}, {1, 2}, {1, 2}, {1, 2}},
        {{3, 4}, {3, 4}}, {{1, 6}}, {{3, 2}, {3, 2}, {3, 2}, {3, 2}}};
    private static final int WAYS = 6;

    private final LeagueLevels x = new LeagueLevels();
    private final Oracle o = new Oracle();
    private final Random random;
    private final String run;
    private int calls = 0;

    private FullHouseTest(int shape, int seed) {
        random = new Random(seed);
        run = "shape " + shape + ", seed " + seed + ": ";
    }

    public static void main(String[] args) {
        for (int shape = 0; shape < SHAPES.length; shape++) {
            for (int seed = 0; seed < 4 * WAYS; seed++) {
                FullHouseTest t = new FullHouseTest(shape, seed);
                t.pyramid(SHAPES[shape]);
                t.season(seed % WAYS);
                t.same("close", t.x.close(), t.o.close());
                t.questions((seed + 1) % WAYS);
                Check.due(t.run + "no more than 512 calls, " + t.calls, t.calls <= 512, true);
            }
        }
        Check.finish();
    }

    private void same(String call, long got, long want) {
        calls++;
        Check.due(run + call, got, want);
    }

    private void tell(String text) {
        StringBuilder b = new StringBuilder(text);
        while (b.length() % 20 != 0) {
            b.append(' ');
        }
        for (int i = 0; i < b.length(); i += 20) {
            int[] w = Check.words(b.substring(i, i + 20));
            same("feed", x.feed(w[0], w[1], w[2], w[3], w[4]), o.feed(w));
        }
        same("end", x.end(text.length()) ? 1 : 0, o.end(text.length()) ? 1 : 0);
    }

    /** Thirty clubs, or as many as 700 bytes hold; those that no division takes wait. */
    private void pyramid(int[][] levels) {
        StringBuilder b = new StringBuilder();
        for (int[] l : levels) {
            b.append("level").append(l[0]).append("of").append(l[1]).append("down").append(random.nextInt(4));
            b.append("need").append(random.nextInt(6)).append(';');
        }
        int club = 0;
        for (int l = 0; l < levels.length; l++) {
            for (int i = 0; i < levels[l][0] * levels[l][1]; i++) {
                b.append(club(club++)).append("in").append(l).append(' ').append(i % levels[l][0]).append(';');
            }
        }
        while (club < 30 && b.length() < 680) {
            b.append(club(club++)).append(';');
        }
        tell(b.toString());
        same("pyramid", x.pyramid(), o.pyramid());
        same("fault", x.fault(0), 0);
        same("clubs", x.look(1), club);
    }

    private String club(int club) {
        return "club " + Edge.nameOf(club) + random.nextInt(10) + " " + random.nextInt(10) + "grade" + random.nextInt(10);
    }

    /** All matches of each division, a few deeds, then one sixth of all questions. */
    private void season(int way) {
        for (int l = 0; l < o.look(0); l++) {
            for (int d = 0; d < o.level(l, 0); d++) {
                StringBuilder b = new StringBuilder();
                for (int home : Oracle.in(o.s, l, d)) {
                    for (int away : o.neighbours(home)) {
                        b.append(Edge.nameOf(home)).append(random.nextInt(4)).append('-').append(random.nextInt(4));
                        b.append(Edge.nameOf(away)).append(';');
                    }
                }
                tell(b.toString());
                same("day", x.day(), o.day());
            }
        }
        for (int i = 0; i < 3; i++) {
            int c = random.nextInt(30);
            // Where nobody waits, the end can be in some of the runs alone.
            if (random.nextInt(3) == 0) {
                same("resign", x.resign(c) ? 1 : 0, o.resign(c) ? 1 : 0);
            }
            c = random.nextInt(30);
            same("refuse", x.refuse(c) ? 1 : 0, o.refuse(c) ? 1 : 0);
            c = random.nextInt(30);
            same("deduct", x.deduct(c, 5) ? 1 : 0, o.deduct(c, 5) ? 1 : 0);
        }
        questions(way);
    }

    private void questions(int way) {
        for (int c = 0; c <= 30; c++) {
            clubQuestions(way, c);
        }
        for (int l = 0; l <= 4; l++) {
            levelQuestions(way, l);
            for (int d = 0; d < (way % 2 == 0 ? 3 : 0); d++) {
                same("rest", x.rest(l, d), o.rest(l, d));
                same("show", x.show(l, d), o.show(l, d));
                same("out", x.out(95), o.out(95));
            }
        }
        for (int what = 0; what < 7; what++) {
            same("look", x.look(what), o.look(what));
        }
    }

    private void clubQuestions(int way, int c) {
        switch (way) {
            case 0 -> {
                same("would " + c, x.would(c), o.would(c));
                same("needs " + c, x.needs(c), o.needs(c));
            }
            case 1 -> {
                same("parted " + c, x.parted(c), o.parted(c));
                same("level " + c, x.club(c, 3), o.club(c, 3));
                same("division " + c, x.club(c, 4), o.club(c, 4));
            }
            case 2 -> {
                same("points " + c, x.points(c), o.points(c));
                same("average " + c, x.average(c), o.average(c));
                same("above " + c, x.above(c), o.above(c));
            }
            case 3 -> {
                same("journeys " + c, x.journeys(c), o.journeys(c));
                same("nearest " + c, x.nearest(c), o.nearest(c));
                same("versus " + c, x.versus(c, 29 - c), o.versus(c, 29 - c));
            }
            case 4 -> {
                same("rank of " + c, x.of(c, 5), o.of(c, 5));
                same("place of " + c, x.of(c, 6), o.of(c, 6));
                same("miles of " + c, x.of(c, 7), o.of(c, 7));
            }
            default -> {
                same("order " + c, x.order(c % 5, c / 2), o.order(c % 5, c / 2));
                same("ranked " + c, x.ranked(c % 5, c % 3, c / 5), o.ranked(c % 5, c % 3, c / 5));
                same("match " + c, x.match(c, c ^ 1, 0), o.match(c, c ^ 1, 0));
            }
        }
    }

    private void levelQuestions(int way, int l) {
        for (int what = 4; what < 8; what++) {
            same("level " + l, x.level(l, what), o.level(l, what));
        }
        for (int what = 0; what < 4; what++) {
            same("moves " + l, x.moves(l, what, -1), o.moves(l, what, -1));
            same("moves " + l, x.moves(l, what, 0), o.moves(l, what, 0));
        }
        same("swap " + l, x.swap(l, way % 3), o.swap(l, way % 3));
        same("middle " + l, x.middle(l), o.middle(l));
        same("strangers " + l, x.strangers(l), o.strangers(l));
    }
}
