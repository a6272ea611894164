/** Promises 12 (close), 20 (level), 21 (moves), 22 (would), 23 (needs): the end of a season. */
public final class EndTest {
    /** a b c at the top; d e f g; h i and j k at the foot; l and m wait. Without matches they rank by number. */
    private static final String PYRAMID = "level 1 of 3 down 1 need 5;level 1 of 4 down 2 need 3;"
            + "level 2 of 2 down 6 need 0;club a0 0grade9in0 0;club b0 0grade9in0 0;club c0 0grade9in0 0;"
            + "club d0 0grade5in1 0;club e0 0grade4in1 0;club f0 0grade5in1 0;club g0 0grade9in1 0;"
            + "club h0 0grade3in2 0;club i0 0grade2in2 0;club j0 0grade3in2 1;club k0 0grade0in2 1;"
            + "club l0 0grade0;club m0 0grade0;";

    public static void main(String[] args) {
        asARule();
        refused();
        resigned();
        forced();
        cannotBe();
        oneLevel();
        wrongOnes();
        needs();
        levels();
        seasons();
        Check.finish();
    }

    private static LeagueLevels made() {
        return Check.with(PYRAMID);
    }

    private static void moves(LeagueLevels x, String when, int level, String... due) {
        String[] names = {" up from ", " down from ", " spared of ", " come to "};
        for (int what = 0; what < 4; what++) {
            Check.due(when + names[what] + level, Check.movers(x, level, what), due[what]);
        }
    }

    private static void would(LeagueLevels x, String when, int... levels) {
        for (int c = 0; c < levels.length; c++) {
            Check.due(when + ", would(" + c + ")", x.would(c), levels[c]);
        }
        int n = x.close();
        Check.due(when + ", it can be", n >= 0, true);
        for (int c = 0; c < levels.length; c++) {
            Check.due(when + ", level of " + c, x.club(c, 3), levels[c]);
        }
        for (int l = 0; l < x.look(0); l++) {
            for (int d = 0; d < x.level(l, 0); d++) {
                int count = 0;
                for (int c = 0; c < levels.length; c++) {
                    count += x.club(c, 3) == l && x.club(c, 4) == d ? 1 : 0;
                }
                Check.due(when + ", as full as it was", count, x.level(l, 1));
            }
        }
    }

    private static void asARule() {
        LeagueLevels x = made();
        moves(x, "as a rule", 0, "", "2", "", "");
        moves(x, "as a rule", 1, "3", "5 6", "", "");
        moves(x, "as a rule", 2, "7 9", "", "", "");
        Check.due("three go up", made().close(), 3);
        would(x, "as a rule", 0, 0, 1, 0, 1, 2, 2, 1, 2, 1, 2, -1, -1);
        Check.due("season 1", x.look(4), 1);
    }

    private static void refused() {
        LeagueLevels x = made();
        x.refuse(3);
        moves(x, "d will not", 0, "", "2", "", "");
        moves(x, "d will not", 1, "5", "4 6", "", "");
        x.refuse(6);
        x.refuse(5);
        moves(x, "nobody will", 0, "", "", "2", "");
        moves(x, "nobody will", 1, "", "5 6", "", "");
        Check.due("two go up", x.close(), 2);
        x = made();
        x.refuse(7);
        x.grade(9, 2);
        moves(x, "nobody may", 1, "3", "", "5 6", "");
        moves(x, "nobody may", 2, "", "", "", "");
        would(x, "nobody may", 0, 0, 1, 0, 1, 1, 1, 2, 2, 2, 2, -1, -1);
    }

    private static void resigned() {
        LeagueLevels x = made();
        x.resign(0);
        moves(x, "a goes", 0, "", "", "2", "");
        moves(x, "a goes", 1, "3", "6", "5", "");
        moves(x, "a goes", 2, "7 9", "", "", "11");
        would(x, "a goes", -2, 0, 0, 0, 1, 1, 2, 1, 2, 1, 2, 2, -1);
        Check.due("gone for good", x.look(3), 1);
        Check.due("gone: would", x.would(0), -2);
        x = made();
        x.resign(10);
        x.resign(7);
        // At the foot nobody need go up for them.
        moves(x, "h and k go", 0, "", "2", "", "");
        moves(x, "h and k go", 1, "3", "6", "5", "");
        moves(x, "h and k go", 2, "9", "", "", "11 12");
        would(x, "h and k go", 0, 0, 1, 0, 1, 1, 2, -2, 2, 1, -2, 2, 2);
    }

    private static void forced() {
        LeagueLevels x = made();
        x.resign(0);
        x.resign(1);
        x.refuse(3);
        x.refuse(5);
        // Only g may; then d, who will not, goes too.
        moves(x, "two are wanting", 0, "", "", "2", "");
        moves(x, "two are wanting", 1, "6 3", "", "4 5", "");
        moves(x, "two are wanting", 2, "7 9", "", "", "11 12");
        x.refuse(6);
        moves(x, "nobody will", 1, "3 4", "", "5 6", "");
        x.refuse(9);
        moves(x, "nor j", 2, "7 9", "", "", "11 12");
        x.refuse(7);
        x.grade(8, 3);
        moves(x, "i may, h and j will not", 2, "8 7", "", "", "11 12");
        would(x, "forced", -2, -2, 0, 0, 0, 1, 1, 1, 1, 2, 2, 2, 2);
        // More spared by the rule than there are: all that are there.
        LeagueLevels y = Check.with("level 1 of 2 down 6 need 9;level 1 of 2 down 0 need 0;"
                + "club a0 0grade0in0 0;club b0 0grade0in0 0;club c0 0grade0in1 0;club d0 0grade0in1 0;");
        moves(y, "six of two", 0, "", "", "0 1", "");
        y.grade(2, 9);
        moves(y, "c may", 0, "", "1", "0", "");
        moves(y, "c may", 1, "2", "", "", "");
    }

    private static void cannotBe(LeagueLevels x, String when) {
        for (int level = 0; level < x.look(0); level++) {
            for (int what = 0; what < 4; what++) {
                Check.due(when + ": how many", x.moves(level, what, -1), -1);
                Check.due(when + ": the first", x.moves(level, what, 0), -1);
            }
        }
        for (int c = 0; c < x.look(1); c++) {
            Check.due(when + ": would(" + c + ")", x.would(c), -3);
        }
        int[] before = new int[x.look(1) * 8];
        for (int i = 0; i < before.length; i++) {
            before[i] = x.club(i / 8, i % 8);
        }
        int season = x.look(4);
        int undone = x.look(6);
        int matches = x.look(5);
        Check.due(when + ": close", x.close(), -1);
        for (int i = 0; i < before.length; i++) {
            Check.due(when + ": nothing changes", x.club(i / 8, i % 8), before[i]);
        }
        Check.due(when + ": nor the season", x.look(4), season);
        Check.due(when + ": nor what can be undone", x.look(6), undone);
        Check.due(when + ": nor matches", x.look(5), matches);
    }

    private static void cannotBe() {
        LeagueLevels x = made();
        Check.play(x, "a 1-0 b;");
        x.resign(4);
        x.resign(5);
        x.resign(10);
        cannotBe(x, "too few wait");
        Check.due("two would do", x.undo(), true);
        Check.due("they do", x.close(), 3);

        LeagueLevels y = Check.with("level 1 of 2 down 0 need 0;level 1 of 2 down 0 need 0;"
                + "club a0 0grade0in0 0;club b0 0grade0in0 0;club c0 0grade0in1 0;club d0 0grade0in1 0;"
                + "club e0 0grade0;club f0 0grade0;club g0 0grade0;");
        y.resign(0);
        y.resign(1);
        Check.due("both go up", Check.movers(y, 1, 0), "2 3");
        y.resign(3);
        cannotBe(y, "too few to go up");

        LeagueLevels z = Check.with("level 1 of 2 down 1 need 0;level 1 of 2 down 2 need 0;"
                + "level 1 of 2 down 0 need 0;club a0 0grade0in0 0;club b0 0grade0in0 0;"
                + "club c0 0grade0in1 0;club d0 0grade0in1 0;club e0 0grade0in2 0;club f0 0grade0in2 0;");
        cannotBe(z, "too few to go down");
        z.refuse(4);
        moves(z, "one goes down", 1, "2", "3", "", "");
        Check.due("so it can be", z.close(), 2);

        LeagueLevels w = Check.with("club a0 0grade0;");
        cannotBe(w, "no level");
        Check.due("nor a move", w.moves(0, 0, -1), -1);
    }

    private static void oneLevel() {
        LeagueLevels x = Check.with("level 1 of 3 down 2 need 0;club a0 0grade0in0 0;club b0 0grade0in0 0;"
                + "club c0 0grade0in0 0;club d0 0grade0;club e0 0grade0;");
        moves(x, "the foot is the top", 0, "", "", "", "");
        x.resign(1);
        moves(x, "the foot is the top", 0, "", "", "", "3");
        Check.due("none goes up", x.level(0, 5), 0);
        Check.due("one is wanting", x.level(0, 4), 1);
        would(x, "the foot is the top", 0, -2, 0, 0, -1);
    }

    private static void wrongOnes() {
        LeagueLevels x = made();
        Check.due("no level", x.moves(3, 0, -1), -1);
        Check.due("no level", x.moves(-1, 0, -1), -1);
        Check.due("another what", x.moves(0, 4, -1), -1);
        Check.due("another what", x.moves(0, -1, -1), -1);
        Check.due("i below", x.moves(2, 0, -2), -1);
        Check.due("i above", x.moves(2, 0, 2), -1);
        Check.due("far", x.moves(2, 0, Integer.MAX_VALUE), -1);
        Check.due("no club", x.would(13), -3);
        Check.due("no club", x.would(-1), -3);
        Check.due("no club needs", x.needs(13), -1);
        Check.due("no club needs", x.needs(-1), -1);
    }

    private static void needs() {
        LeagueLevels x = made();
        int[] due = {-1, -1, -1, 5, -1, -1, -1, 3, -1, 3, -1, -1, -1};
        for (int c = 0; c < due.length; c++) {
            Check.due("needs(" + c + ")", x.needs(c), due[c]);
        }
        Check.due("grades stay", x.club(3, 2), 5);
        Check.due("nothing was done", x.look(6), 0);
        x.refuse(9);
        // With i there are two who may, so both go up.
        Check.due("i would be the second", x.needs(8), 3);
        Check.due("j will not", x.needs(9), -1);
        x.grade(6, 0);
        x.grade(5, 0);
        Check.due("e behind d", x.needs(4), -1);
        x.refuse(3);
        Check.due("e alone", x.needs(4), 5);
        x.resign(0);
        // One is wanting: d goes up against its will, with any grade, unless another may.
        Check.due("d with none", x.needs(3), 0);
        Check.due("e in place of d", x.needs(4), 5);
        x.resign(4);
        Check.due("who resigned", x.needs(4), -1);
        Check.due("f in place of d", x.needs(5), 5);
        x.resign(10);
        Check.due("too few wait", x.needs(3), -1);
        Check.due("too few wait", x.needs(5), -1);
        // With a grade too many may, so that too few are left to go down.
        LeagueLevels y = Check.with("level 1 of 2 down 1 need 0;level 1 of 2 down 2 need 4;"
                + "level 1 of 2 down 0 need 0;club a0 0grade0in0 0;club b0 0grade0in0 0;"
                + "club c0 0grade0in1 0;club d0 0grade0in1 0;club e0 0grade5in2 0;club f0 0grade0in2 0;");
        Check.due("e, if f may not", y.needs(4), 4);
        Check.due("f would make it impossible", y.needs(5), -1);
    }

    private static void levels() {
        LeagueLevels x = made();
        int[] down = {1, 2, 6};
        int[] need = {5, 3, 0};
        int[] may = {0, 3, 2};
        for (int l = 0; l < 3; l++) {
            Check.due("down of " + l, x.level(l, 2), down[l]);
            Check.due("need of " + l, x.level(l, 3), need[l]);
            Check.due("wanting of " + l, x.level(l, 4), 0);
            Check.due("may from " + l, x.level(l, 5), may[l]);
        }
        x.resign(3);
        x.resign(7);
        x.refuse(6);
        int[] wanting = {0, 1, 2};
        int[] mayNow = {0, 1, 1};
        for (int l = 0; l < 3; l++) {
            Check.due("wanting of " + l, x.level(l, 4), wanting[l]);
            Check.due("may from " + l, x.level(l, 5), mayNow[l]);
        }
        x.resign(0);
        Check.due("of those above too", x.level(2, 4), 3);
        for (int what = 0; what < 8; what++) {
            Check.due("no level", x.level(3, what), -1);
            Check.due("no level", x.level(-1, what), -1);
        }
        Check.due("another what", x.level(0, 8), -1);
        Check.due("another what", x.level(0, -1), -1);
    }

    private static void seasons() {
        LeagueLevels x = made();
        // By points now: c, b, a; the last two of d .. g are d and e; k leads its division, but has no grade.
        Check.play(x, "c 1-0 a;b 0-0 a;g 2-0 d;f 1-0 e;k 4-0 j;i 1-0 h;");
        moves(x, "by points", 0, "", "0", "", "");
        moves(x, "by points", 1, "6", "4 3", "", "");
        moves(x, "by points", 2, "7 9", "", "", "");
        Check.due("three", x.close(), 3);
        Check.due("no matches", x.look(5), 0);
        Check.due("no points", x.points(6), 0);
        Check.due("none told", x.match(2, 0, 0), -1);
        Check.due("top", Check.divisionsOf(x, 0), "1 2 6");
        Check.due("second", Check.divisionsOf(x, 1), "0 5 7 9");
        Check.due("foot, parted anew", Check.divisionsOf(x, 2), "3 4 | 8 10");
        for (int season = 2; season <= 40; season++) {
            Check.due("close " + season, x.close() >= 0, true);
            Check.due("season", x.look(4), season);
        }
    }
}
