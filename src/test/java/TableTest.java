/** Promises 14 to 19, 28, 29, 32, 34, 35, 36: what is told of clubs, points, ranks and tables. */
public final class TableTest {
    private static final String FOUR = "level 1 of 4 down 0 need 0;club a 0 0 grade 0 in 0 0;"
            + "club b 0 0 grade 0 in 0 0;club c 0 0 grade 0 in 0 0;club dora 0 0 grade 0 in 0 0;";
    private static final String SIX = "level 1 of 6 down 0 need 0;club a 1 0 grade 0 in 0 0;"
            + "club b 0 5 grade 0 in 0 0;club c 9 0 grade 0 in 0 0;club d 7 3 grade 0 in 0 0;"
            + "club e 2 8 grade 0 in 0 0;club f 40 40 grade 0 in 0 0;";

    public static void main(String[] args) {
        clubs();
        sums();
        ranks();
        orders();
        averages();
        above();
        versus();
        shown();
        shownWhole();
        mostMatches();
        looks();
        Check.finish();
    }

    private static void clubs() {
        LeagueLevels x = Check.with("level 1 of 2 down 0 need 0;club a 1 2 grade 3 in 0 0;"
                + "club b 4 5 grade 6 in 0 0;club c 7 8 grade 9;");
        x.resign(0);
        x.refuse(0);
        x.deduct(0, 9);
        int[] a = {1, 2, 3, 0, 0, 1, 1, 9};
        int[] c = {7, 8, 9, -1, -1, 0, 0, 0};
        for (int what = 0; what < 8; what++) {
            Check.due("a's " + what, x.club(0, what), a[what]);
            Check.due("c's " + what, x.club(2, what), c[what]);
            Check.due("no club's " + what, x.club(3, what), -3);
            Check.due("no club's " + what, x.club(-1, what), -3);
        }
        Check.due("another what", x.club(0, 8), -3);
        Check.due("another what", x.club(0, -1), -3);
        Check.due("far", x.club(Integer.MAX_VALUE, 0), -3);
        x.close();
        int[] gone = {1, 2, 3, -2, -1, 0, 0, 0};
        for (int what = 0; what < 8; what++) {
            Check.due("what is left of a " + what, x.club(0, what), gone[what]);
        }
        Check.due("c came", x.club(2, 3), 0);
        Check.due("into the division", x.club(2, 4), 0);
    }

    private static void sums() {
        LeagueLevels x = Check.with(FOUR + "club w 0 0 grade 0;");
        Check.play(x, "a 3-1 b;c 2-2 a;a 0-4 dora;");
        int[] a = {3, 1, 1, 5, 7};
        int[] b = {1, 0, 0, 1, 3};
        for (int what = 0; what < 5; what++) {
            Check.due("a's " + what, x.of(0, what), a[what]);
            Check.due("b's " + what, x.of(1, what), b[what]);
            Check.due("who waits", x.of(4, what), -1);
            Check.due("no club", x.of(5, what), -1);
            Check.due("no club", x.of(-1, what), -1);
        }
        Check.due("another what", x.of(0, 8), -1);
        Check.due("another what", x.of(0, -1), -1);
        Check.due("points", x.points(0), 4);
        Check.due("points", x.points(1), 0);
        Check.due("points", x.points(2), 1);
        Check.due("points", x.points(3), 3);
        Check.due("who waits has none", x.points(4), Integer.MIN_VALUE);
        Check.due("no club", x.points(5), Integer.MIN_VALUE);
        Check.due("no club", x.points(-1), Integer.MIN_VALUE);
        x.deduct(0, 5);
        Check.due("less what is deducted", x.points(0), -1);
    }

    private static void ranked(LeagueLevels x, String what, int... clubs) {
        for (int i = 0; i < clubs.length; i++) {
            Check.due(what + ", rank " + (i + 1), x.ranked(0, 0, i + 1), clubs[i]);
            Check.due(what + ", rank of " + clubs[i], x.of(clubs[i], 5), i + 1);
            Check.due(what + ", order " + i, x.order(0, i), clubs[i]);
            Check.due(what + ", place in it", x.of(clubs[i], 6), i);
        }
    }

    private static void ranks() {
        LeagueLevels x = Check.with(FOUR);
        ranked(x, "by number", 0, 1, 2, 3);
        Check.play(x, "dora 1-0 a;");
        ranked(x, "by points, then goals less those against", 3, 1, 2, 0);
        Check.play(x, "b 2-2 c;");
        ranked(x, "by points", 3, 1, 2, 0);
        Check.play(x, "c 1-1 a;");
        ranked(x, "two of c", 3, 2, 1, 0);
        Check.play(x, "a 5-4 b;");
        ranked(x, "a has 4", 0, 3, 2, 1);
        x.deduct(0, 1);
        ranked(x, "a has 3 and 6 to 6, dora 3 and 1 to 0", 3, 0, 2, 1);
        x.deduct(0, 1);
        ranked(x, "a and c have 2 and no goal less, a has more goals", 3, 0, 2, 1);
        x.deduct(0, 1);
        ranked(x, "a and b have 1, b less by a goal", 3, 2, 0, 1);
        Check.due("no rank 0", x.ranked(0, 0, 0), -1);
        Check.due("no rank 5", x.ranked(0, 0, 5), -1);
        Check.due("no rank below", x.ranked(0, 0, Integer.MIN_VALUE), -1);
        Check.due("no division", x.ranked(0, 1, 1), -1);
        Check.due("no division", x.ranked(0, -1, 1), -1);
        Check.due("no level", x.ranked(1, 0, 1), -1);
        Check.due("no level", x.ranked(-1, 0, 1), -1);
    }

    private static void orders() {
        LeagueLevels x = Check.with("level 1 of 2 down 0 need 0;level 2 of 3 down 0 need 0;"
                + "club a 0 0 grade 0 in 1 0;club b 0 0 grade 0 in 1 0;club c 0 0 grade 0 in 1 0;"
                + "club d 0 0 grade 0 in 1 1;club e 0 0 grade 0 in 1 1;club f 0 0 grade 0 in 1 1;"
                + "club p 0 0 grade 0 in 0 0;club q 0 0 grade 0 in 0 0;");
        // Division 0: a 4 of 2, b 1 of 2, c nothing of none. Division 1: f 3 of 1, d and e nothing, e of 1.
        Check.play(x, "a 1-0 b;b 1-1 a;f 1-0 e;");
        int[] order = {5, 0, 1, 3, 2, 4};
        for (int i = 0; i < order.length; i++) {
            Check.due("order " + i, x.order(1, i), order[i]);
            Check.due("place of " + order[i], x.of(order[i], 6), i);
        }
        // c has no match: its average is 0 whatever is deducted, d's too; e's is below.
        x.deduct(2, 50);
        Check.due("like averages by number", x.order(1, 4), 2);
        Check.due("then e", x.order(1, 5), 4);
        x.deduct(4, 1);
        x.deduct(3, 2);
        // Division 1 now: f, e (-1 of 1), d (-2 of none).
        Check.due("rank 2: b 1 of 2", x.order(1, 2), 1);
        Check.due("rank 2: e -1 of 1", x.order(1, 3), 4);
        Check.due("rank 3: c", x.order(1, 4), 2);
        Check.due("rank 3: d", x.order(1, 5), 3);
        Check.due("no further one", x.order(1, 6), -1);
        Check.due("none below", x.order(1, -1), -1);
        Check.due("the top level", x.order(0, 1), 7);
        Check.due("no level", x.order(2, 0), -1);
        Check.due("no level", x.order(-1, 0), -1);
    }

    private static void averages() {
        for (int matches = 0; matches <= 10; matches++) {
            for (int high = 0; high < 2; high++) {
                LeagueLevels x = Check.with(SIX);
                String[] all = {"a 1-0 b;", "a 1-0 c;", "d 0-2 a;", "a 1-1 d;", "a 1-0 e;", "a 1-0 f;",
                    "b 0-1 a;", "c 0-1 a;", "e 5-1 a;", "f 7-7 a;"};
                for (int i = 0; i < matches; i++) {
                    Check.play(x, all[i]);
                }
                for (int i = 0; i < 5 * high; i++) {
                    x.deduct(0, 99);
                }
                for (int i = 0; i < 400; i++) {
                    float points = x.points(0);
                    int due = matches == 0 ? 0 : Float.floatToIntBits(points / (float) matches);
                    Check.due("average of " + points + " by " + matches, x.average(0), due);
                    x.deduct(0, 1);
                }
            }
        }
        LeagueLevels x = Check.with(FOUR + "club w 0 0 grade 0;");
        Check.due("without a match", x.average(0), 0);
        Check.due("who waits", x.average(4), -1);
        Check.due("no club", x.average(5), -1);
        Check.due("no club", x.average(-1), -1);
    }

    private static void above() {
        LeagueLevels x = Check.with("level 1 of 3 down 0 need 0;club a 0 0 grade 0 in 0 0;"
                + "club b 0 0 grade 0 in 0 0;club c 0 0 grade 0 in 0 0;club w 0 0 grade 0;");
        Check.due("all can have nothing", x.above(0), 2);
        Check.play(x, "a 1-0 b;a 1-0 c;b 0-1 a;");
        // a has 9; b has 2 matches left: 6 at most; c has 3 left: 9 at most.
        Check.due("c alone, as many", x.above(0), 1);
        x.deduct(2, 1);
        Check.due("none", x.above(0), 0);
        Check.due("both others", x.above(1), 2);
        Check.due("both others", x.above(2), 2);
        Check.play(x, "b 1-0 c;c 0-1 b;");
        // b has 6, c -1 and one match left; a has 9 of three.
        Check.due("a alone", x.above(1), 1);
        Check.due("both have more already", x.above(2), 2);
        Check.due("who waits", x.above(3), -1);
        Check.due("no club", x.above(4), -1);
        Check.due("no club", x.above(-1), -1);
    }

    private static void versus() {
        LeagueLevels x = Check.with("level 2 of 2 down 0 need 0;club a 0 0 grade 0 in 0 0;"
                + "club b 0 0 grade 0 in 0 0;club c 0 0 grade 0 in 0 1;club d 0 0 grade 0 in 0 1;"
                + "club w 0 0 grade 0;");
        Check.due("no match", x.versus(0, 1), 0);
        Check.play(x, "a 1-0 b;c 0-0 d;");
        Check.due("a won", x.versus(0, 1), 30);
        Check.due("seen by b", x.versus(1, 0), 3);
        Check.due("drawn", x.versus(2, 3), 11);
        Check.play(x, "b 1-1 a;d 1-5 c;");
        Check.due("and drawn", x.versus(0, 1), 41);
        Check.due("seen by b", x.versus(1, 0), 14);
        Check.due("and won away", x.versus(2, 3), 41);
        x.deduct(0, 3);
        Check.due("what is deducted is not of matches", x.versus(0, 1), 41);
        Check.due("of unlike divisions", x.versus(0, 2), 0);
        Check.due("the same one", x.versus(1, 1), -1);
        Check.due("who waits", x.versus(0, 4), -1);
        Check.due("who waits", x.versus(4, 0), -1);
        Check.due("no club", x.versus(0, 5), -1);
        Check.due("no club", x.versus(-1, 0), -1);
    }

    private static void shown() {
        LeagueLevels x = Check.with(FOUR + "club w 0 0 grade 0;");
        Check.due("nothing", x.out(0), -1);
        Check.play(x, "dora 1-0 a;dora 3-2 b;a 0-0 dora;dora 3-0 c;b 1-2 dora;");
        Check.due("by rank", Check.shown(x, 0, 0), "dora 13 5;a 1 2;b 0 2;c 0 1;");
        Check.due("how many bytes", x.show(0, 0), 28);
        Check.due("the first", x.out(0), 'd');
        Check.due("the last", x.out(27), ';');
        Check.due("none behind", x.out(28), -1);
        Check.due("none ahead", x.out(-1), -1);
        Check.due("far", x.out(Integer.MAX_VALUE), -1);
        x.deduct(0, 11);
        for (int i = 0; i < 10; i++) {
            x.deduct(3, 99);
        }
        x.deduct(3, 9);
        Check.due("as it was shown", x.out(5), '1');
        Check.due("no level", x.show(1, 0), -1);
        Check.due("no level", x.show(-1, 0), -1);
        Check.due("no division", x.show(0, 1), -1);
        Check.due("no division", x.show(0, -1), -1);
        Check.due("what was shown stays", x.out(27), ';');
        Check.due("below 0", Check.shown(x, 0, 0), "b 0 2;c 0 1;a -10 2;dora -986 5;");
        LeagueLevels y = Check.with(SIX + "club longest 0 0 grade 0;");
        y.resign(0);
        y.close();
        Check.play(y, "longest 0-9 b;");
        for (int i = 0; i < 10; i++) {
            y.deduct(6, 99);
        }
        Check.due("a long name", Check.shown(y, 0, 0), "b 3 1;c 0 0;d 0 0;e 0 0;f 0 0;longest -990 1;");
    }

    /** The longest table there is, and the numbers at which another digit comes. */
    private static void shownWhole() {
        StringBuilder b = new StringBuilder("level 1 of 6 down 0 need 0;");
        StringBuilder due = new StringBuilder();
        for (char c = 'a'; c < 'g'; c++) {
            b.append("club longer").append(c).append(" 0 0 grade 0 in 0 0;");
            due.append("longer").append(c).append(" -100 10;");
        }
        LeagueLevels x = Check.with(b.toString());
        int matches = allMatches(x, "longer", 'a', 6);
        Check.due("each with each other twice", x.look(5), matches);
        for (int c = 0; c < 6; c++) {
            x.deduct(c, 99);
            x.deduct(c, 11);
        }
        Check.due("96 bytes", x.show(0, 0), 96);
        Check.due("all of them", Check.shown(x, 0, 0), due.toString());
        int[] deducted = {1, 9, 89, 0, 0, 0};
        for (int c = 0; c < 6; c++) {
            x.deduct(c, deducted[c]);
        }
        x.undo();
        Check.due("-109 is last", Check.shown(x, 0, 0).substring(80), "longerb -109 10;");
        LeagueLevels y = Check.with("level 1 of 2 down 0 need 0;club a 0 0 grade 0 in 0 0;club b 0 0 grade 0 in 0 0;");
        int at = 0;
        for (int n : new int[] {1, 9, 10, 11, 99, 100, 101, 110, 199, 200}) {
            while (at < n) {
                int more = Math.min(99, n - at);
                y.deduct(0, more);
                at += more;
            }
            Check.due("less " + n, Check.shown(y, 0, 0), "b 0 0;a -" + n + " 0;");
        }
    }

    /** All matches of a division whose clubs are called by letters that follow each other, all drawn. */
    private static int allMatches(LeagueLevels x, String name, char first, int size) {
        int matches = 0;
        for (int home = 0; home < size; home++) {
            StringBuilder day = new StringBuilder();
            for (int away = 0; away < size; away++) {
                if (home != away) {
                    day.append(name).append((char) (first + home)).append("0-0").append(name)
                            .append((char) (first + away)).append(';');
                    matches++;
                }
            }
            Check.play(x, day.toString());
        }
        return matches;
    }

    private static void mostMatches() {
        StringBuilder b = new StringBuilder("level2of6down0need0;level2of6down0need0;level1of6down0need0;");
        for (int c = 0; c < 30; c++) {
            b.append("club ").append(c < 24 ? "" : "a").append((char) ('a' + c % 24)).append("0 0grade0in");
            b.append(c / 12).append(' ').append(c / 6 % 2).append(';');
        }
        LeagueLevels x = Check.with(b.toString());
        int matches = 0;
        for (int d = 0; d < 4; d++) {
            matches += allMatches(x, "", (char) ('a' + 6 * d), 6);
        }
        matches += allMatches(x, "a", 'a', 6);
        Check.due("all matches that can be", matches, 150);
        Check.due("are told", x.look(5), 150);
        for (int c = 0; c < 30; c++) {
            Check.due("points of " + c, x.points(c), 10);
            Check.due("matches of " + c, x.of(c, 0), 10);
        }
        Check.due("the last one", x.match(29, 28, 0), 0);
    }

    private static void looks() {
        LeagueLevels x = Check.with("level 1 of 2 down 0 need 0;level 1 of 2 down 0 need 0;"
                + "club a 0 0 grade 0 in 0 0;club b 0 0 grade 0 in 0 0;club c 0 0 grade 0 in 1 0;"
                + "club d 0 0 grade 0 in 1 0;club w 0 0 grade 0;club v 0 0 grade 0;");
        Check.play(x, "a 1-0 b;");
        x.resign(0);
        Check.tell(x, "abc");
        int[] first = {2, 6, 2, 0, 0, 1, 2, 3};
        for (int what = 0; what < 8; what++) {
            Check.due("look(" + what + ")", x.look(what), first[what]);
        }
        Check.due("the end", x.close(), 1);
        int[] second = {2, 6, 1, 1, 1, 0, 0, 3};
        for (int what = 0; what < 8; what++) {
            Check.due("look(" + what + ") behind the end", x.look(what), second[what]);
        }
        Check.due("another what", x.look(8), -1);
        Check.due("another what", x.look(-1), -1);
    }
}
