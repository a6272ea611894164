/** Promises 15 (of), 20 (level), 24 to 27, 30, 31, 33: miles, parting, swaps, journeys. */
public final class MilesTest {
    /** a and c near each other, b and d too, but a with b and c with d. */
    private static final String CROSSED = "level 2 of 2 down 0 need 0;club a 0 0 grade 0 in 0 0;"
            + "club b 50 0 grade 0 in 0 0;club c 1 0 grade 0 in 0 1;club d 51 0 grade 0 in 0 1;"
            + "club w 2 0 grade 0;";
    private static final String LINE = "level 1 of 3 down 0 need 0;club a 0 0 grade 0 in 0 0;"
            + "club b 3 4 grade 0 in 0 0;club c 6 8 grade 0 in 0 0;club w 0 0 grade 0;";

    public static void main(String[] args) {
        roots();
        parted();
        firstWay();
        partedBehindTheEnd();
        swap();
        middle();
        rest();
        journeys();
        nearest();
        strangers();
        Check.finish();
    }

    private static void roots() {
        for (int x = 0; x <= 99; x += 3) {
            for (int y = 0; y <= 99; y++) {
                LeagueLevels l = Check.with("level 1 of 2 down 0 need 0;club a 0 " + y + " grade 0 in 0 0;"
                        + "club b " + x + " 0 grade 0 in 0 0;");
                int root = 0;
                while ((root + 1) * (root + 1) <= x * x + y * y) {
                    root++;
                }
                Check.due("miles of " + x + " and " + y, l.of(0, 7), root);
                Check.due("and back", l.of(1, 7), root);
                Check.due("of the level", l.level(0, 6), root);
            }
        }
        LeagueLevels l = Check.with(LINE);
        Check.due("to all others", l.of(0, 7), 15);
        Check.due("to all others", l.of(1, 7), 10);
        Check.due("who waits", l.of(3, 7), -1);
        Check.due("of a division", l.level(0, 6), 20);
        Check.due("the fewest", l.level(0, 7), 20);
    }

    private static void parted() {
        LeagueLevels x = Check.with(CROSSED);
        int[] due = {0, 1, 0, 1};
        for (int c = 0; c < 4; c++) {
            Check.due("parted(" + c + ")", x.parted(c), due[c]);
        }
        Check.due("who waits", x.parted(4), -1);
        Check.due("no club", x.parted(5), -1);
        Check.due("no club", x.parted(-1), -1);
        Check.due("miles now", x.level(0, 6), 100);
        Check.due("the fewest", x.level(0, 7), 2);
        Check.due("it stands as it stood", x.club(2, 4), 1);
        Check.due("the end", x.close(), 0);
        Check.due("parted anew", Check.divisionsOf(x, 0), "0 2 | 1 3");
        Check.due("miles then", x.level(0, 6), 2);
        Check.due("the fewest still", x.level(0, 7), 2);
        x.resign(0);
        x.resign(1);
        Check.due("too few wait", x.close(), -1);
        x.undo();
        Check.due("a goes, w comes", x.close(), 0);
        Check.due("parted anew", Check.divisionsOf(x, 0), "1 3 | 2 4");
    }

    private static String clubs(int[] xs, int divisions) {
        StringBuilder b = new StringBuilder();
        for (int i = 0; i < xs.length; i++) {
            b.append("club ").append((char) ('a' + i)).append(xs[i]).append(" 0grade0in0 ").append(i % divisions).append(';');
        }
        return b.toString();
    }

    private static String way(int divisions, int size, int... xs) {
        LeagueLevels x = Check.with("level " + divisions + " of " + size + " down 0 need 0;" + clubs(xs, divisions));
        StringBuilder b = new StringBuilder();
        for (int c = 0; c < xs.length; c++) {
            b.append(x.parted(c));
        }
        x.close();
        StringBuilder then = new StringBuilder();
        for (int c = 0; c < xs.length; c++) {
            then.append(x.club(c, 4));
        }
        Check.due("parted as it would be", then.toString(), b.toString());
        return b.toString();
    }

    private static void firstWay() {
        Check.due("all at one place", way(3, 2, 5, 5, 5, 5, 5, 5), "001122");
        Check.due("all at one place", way(3, 4, 5, 5, 5, 5, 5, 5, 5, 5, 5, 5, 5, 5), "000011112222");
        Check.due("all at one place", way(2, 6, 5, 5, 5, 5, 5, 5, 5, 5, 5, 5, 5, 5), "000000111111");
        Check.due("one division", way(1, 6, 1, 9, 1, 9, 1, 9), "000000");
        Check.due("two places", way(2, 3, 1, 9, 1, 9, 1, 9), "010101");
        Check.due("three places", way(3, 4, 1, 9, 20, 1, 9, 20, 1, 9, 20, 1, 9, 20), "012012012012");
        // 0 | 0 1 | 1: of 01 23 and of 02 13 the miles are 0 + 0 or 1 + 1.
        Check.due("the fewest", way(2, 2, 0, 1, 0, 1), "0101");
        // 1 at the ends of 0 and 2: 01 23 and 03 12 and 02 13 have 2, 2 and 2 miles.
        Check.due("the first of like ones", way(2, 2, 0, 1, 1, 2), "0011");
        // a with b or c, the others are left: ab cd 10 + 10, ac bd 10 + 10, ad bc 20 + 0.
        Check.due("the first of like ones", way(2, 2, 0, 10, 10, 20), "0011");
        // Division 0 is ab either way; then cd, ef and ce, df and cf, de are alike.
        Check.due("then of division 1", way(3, 2, 0, 0, 50, 60, 60, 70), "001122");
        Check.due("each division begins with the least left", way(3, 2, 70, 0, 40, 1, 41, 71), "012120");
    }

    private static void partedBehindTheEnd() {
        LeagueLevels x = Check.with("level 1 of 2 down 1 need 0;level 2 of 3 down 0 need 0;"
                + "club a 0 0 grade 0 in 0 0;club b 90 0 grade 0 in 0 0;club c 91 0 grade 0 in 1 0;"
                + "club d 2 0 grade 0 in 1 0;club e 3 0 grade 0 in 1 0;club f 92 0 grade 0 in 1 1;"
                + "club g 4 0 grade 0 in 1 1;club h 93 0 grade 0 in 1 1;");
        Check.due("c may", Check.movers(x, 1, 0), "2");
        Check.due("the end", x.close(), 1);
        Check.due("top", Check.divisionsOf(x, 0), "0 2");
        Check.due("b with those at its side", Check.divisionsOf(x, 1), "1 5 7 | 3 4 6");
        Check.due("would they part again", x.parted(1), 0);
    }

    private static void swap() {
        LeagueLevels x = Check.with(CROSSED);
        Check.due("the lesser one", x.swap(0, 0), 0);
        Check.due("the other", x.swap(0, 1), 3);
        Check.due("it saves", x.swap(0, 2), 98);
        Check.due("another what", x.swap(0, 3), -1);
        Check.due("another what", x.swap(0, -1), -1);
        Check.due("no level", x.swap(1, 0), -1);
        Check.due("no level", x.swap(-1, 0), -1);
        x.close();
        for (int what = 0; what < 3; what++) {
            Check.due("none saves some", x.swap(0, what), -1);
            Check.due("nor in one division", Check.with(LINE).swap(0, what), -1);
        }
    }

    private static void middle() {
        LeagueLevels x = Check.with(CROSSED);
        Check.due("b and c have 100 both, b is the first", x.middle(0), 1);
        Check.due("no level", x.middle(1), -1);
        Check.due("no level", x.middle(-1), -1);
        Check.due("of a line", Check.with(LINE).middle(0), 1);
    }

    private static void rest() {
        LeagueLevels x = Check.with(LINE);
        Check.due("no match", x.rest(0, 0), -1);
        String[] days = {"a 1-0 b;", "b 1-0 a;", "a 1-0 c;", "c 1-0 a;", "b 1-0 c;", "c 1-0 b;"};
        for (int i = 0; i < days.length; i++) {
            Check.play(x, days[i]);
            Check.due("40 by " + (i + 1), x.rest(0, 0), Double.doubleToLongBits(40.0 / (i + 1) % 1.0));
        }
        Check.due("no division", x.rest(0, 1), -1);
        Check.due("no division", x.rest(0, -1), -1);
        Check.due("no level", x.rest(1, 0), -1);
        Check.due("no level", x.rest(-1, 0), -1);
        for (int far = 0; far <= 99; far += 3) {
            LeagueLevels y = Check.with("level 1 of 6 down 0 need 0;club a0 0grade0in0 0;club b99 99grade0in0 0;"
                    + "club c" + far + " 0grade0in0 0;club d99 0grade0in0 0;club e0 " + far + "grade0in0 0;"
                    + "club f" + far + " " + far + "grade0in0 0;");
            int matches = 0;
            for (int home = 0; home < 6; home++) {
                for (int away = 0; away < 6; away++) {
                    if (home != away) {
                        Check.play(y, (char) ('a' + home) + "0-0" + (char) ('a' + away) + ";");
                        matches++;
                        double miles = 2 * y.level(0, 6);
                        Check.due(miles + " by " + matches, y.rest(0, 0),
                                Double.doubleToLongBits(miles / (double) matches % 1.0));
                    }
                }
            }
        }
        LeagueLevels z = Check.with("level 2 of 2 down 0 need 0;club a0 0grade0in0 0;club b0 7grade0in0 0;"
                + "club c0 0grade0in0 1;club d0 9grade0in0 1;");
        Check.play(z, "a 0-0 b;");
        Check.due("14 by 1", z.rest(0, 0), 0);
        Check.due("no match of the other", z.rest(0, 1), -1);
    }

    private static void journeys() {
        LeagueLevels x = Check.with(LINE);
        Check.due("none", x.journeys(0), 0);
        Check.play(x, "a 1-0 b;c 1-0 a;b 1-1 a;");
        Check.due("to c and b, there and back", x.journeys(0), 30);
        Check.due("to a", x.journeys(1), 10);
        Check.due("at home alone", x.journeys(2), 0);
        Check.due("who waits", x.journeys(3), -1);
        Check.due("no club", x.journeys(4), -1);
        Check.due("no club", x.journeys(-1), -1);
        x.undo();
        Check.due("undone", x.journeys(0), 0);
    }

    private static void nearest() {
        LeagueLevels x = Check.with(LINE);
        Check.due("b", x.nearest(0), 1);
        Check.due("a and c are as near, a is the first", x.nearest(1), 0);
        Check.due("b", x.nearest(2), 1);
        Check.due("who waits", x.nearest(3), -1);
        Check.due("no club", x.nearest(4), -1);
        Check.due("no club", x.nearest(-1), -1);
        Check.due("of its own division alone", Check.with(CROSSED).nearest(0), 1);
    }

    private static void strangers() {
        LeagueLevels x = Check.with("level 2 of 3 down 0 need 0;club a 0 0 grade 0 in 0 0;"
                + "club b 0 1 grade 0 in 0 0;club c 90 0 grade 0 in 0 0;club d 90 1 grade 0 in 0 1;"
                + "club e 91 0 grade 0 in 0 1;club f 1 0 grade 0 in 0 1;");
        // c has 180 to a and b and 91 to d, e and f; f has 179 and 91.
        Check.due("c and f", x.strangers(0), 1 << 2 | 1 << 5);
        x.close();
        Check.due("none behind the end", x.strangers(0), 0);
        Check.due("as many is not fewer", Check.with(CROSSED).strangers(0), 0);
        Check.due("one division", Check.with(LINE).strangers(0), 0);
        Check.due("no level", x.strangers(1), -1);
        Check.due("no level", x.strangers(-1), -1);
    }
}
