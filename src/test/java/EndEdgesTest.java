/**
 * The bounds of the END (how many go UP, DOWN, are SPARED, COME, and when it can't be), of parting anew, and of
 * promises 12 and 20 to 25: one method for each sentence that names a boundary.
 */
public final class EndEdgesTest {
    public static void main(String[] args) {
        wantingOfItAndAbove();
        mayWithTheGrade();
        mayNotFromTheTop();
        howManyGo();
        othersIfTooFewMay();
        tooFewToGoUp();
        tooFewToGoDown();
        tooFewWait();
        noLevel();
        cannotBeChangesNothing();
        sparedAsManyAsDown();
        footDoesNotCount();
        comeToTheFootAlone();
        goneForGood();
        behindTheEnd();
        levelNoneSuch();
        movesNoneSuch();
        wouldNoneSuch();
        needsLeastGrade();
        needsNone();
        partedSmallest();
        partedLargest();
        partedFirstWay();
        partedNone();
        swapFirst();
        swapNone();
        Check.finish();
    }

    /** Four of the top, so many going down as a rule; six of the foot, so many of which may go up; some wait. */
    private static LeagueLevels two(int down, int resigned, int may, int waiting) {
        LeagueLevels x = Check.with(Edge.filled(waiting, Edge.four(1, 4, down, 5), Edge.four(1, 6, 0, 0)));
        for (int i = 0; i < resigned; i++) {
            Check.due("resign", x.resign(i), true);
        }
        for (int i = 0; i < may; i++) {
            Check.due("grade", x.grade(9 - i, 5), true);
        }
        return x;
    }

    /** Terms: WANTING: CLUBS of it and of those above it (not of those below) that have RESIGNED. */
    private static void wantingOfItAndAbove() {
        int[] l = Edge.four(1, 2, 0, 0);
        for (int club = 0; club < 8; club++) {
            LeagueLevels x = Check.with(Edge.filled(4, l, l, l, l));
            x.resign(club);
            for (int level = 0; level < 4; level++) {
                Check.due("wanting of " + level, x.level(level, 4), club / 2 <= level ? 1 : 0);
            }
        }
        LeagueLevels x = Check.with(Edge.filled(4, l, l, l, l));
        for (int club = 0; club < 8; club++) {
            x.resign(club);
        }
        for (int level = 0; level < 4; level++) {
            Check.due("all, wanting of " + level, x.level(level, 4), 2 * level + 2);
        }
    }

    /** Terms: MAY: neither RESIGNED nor REFUSED, and the GRADE that is NEEDED in the LEVEL above. */
    private static void mayWithTheGrade() {
        for (int need = 0; need <= 9; need++) {
            for (int grade = 0; grade <= 9; grade++) {
                LeagueLevels x = Check.with(Edge.filled(1, Edge.four(1, 2, 1, need), Edge.four(1, 2, 0, 9 - need)));
                x.grade(3, grade);
                x.grade(2, 0);
                x.refuse(2);
                boolean may = grade >= need;
                Check.due(grade + " where " + need + " is needed", x.level(1, 5), may ? 1 : 0);
                Check.due("who goes up", Check.movers(x, 1, 0), may ? "3" : "");
            }
        }
        LeagueLevels x = two(1, 0, 2, 2);
        Check.due("two", x.level(1, 5), 2);
        x.refuse(9);
        Check.due("one refused", x.level(1, 5), 1);
        x.resign(8);
        Check.due("one resigned", x.level(1, 5), 0);
    }

    /** Terms: from a LEVEL (but the top); promise 20: the top: 0. */
    private static void mayNotFromTheTop() {
        LeagueLevels x = Check.with(Edge.filled(0, Edge.four(1, 2, 0, 0), Edge.four(1, 2, 0, 0)));
        Check.due("the top", x.level(0, 5), 0);
        Check.due("below it", x.level(1, 5), 2);
        Check.due("nobody goes up from it", x.moves(0, 0, -1), 0);
        Check.due("the top alone", Check.with(Edge.filled(0, Edge.four(1, 2, 6, 0))).level(0, 5), 0);
    }

    /**
     * Terms: as many go UP as the greater of DOWN and WANTING, at most as many as MAY, but WANTING at least; as many
     * go DOWN as that less WANTING. Every case of four and six clubs, with four that wait.
     */
    private static void howManyGo() {
        for (int down = 0; down <= 6; down++) {
            for (int wanting = 0; wanting <= 4; wanting++) {
                for (int may = 0; may <= 6; may++) {
                    int up = down > wanting ? down : wanting;
                    up = up > may ? may : up;
                    up = up < wanting ? wanting : up;
                    String when = "down " + down + ", wanting " + wanting + ", may " + may;
                    LeagueLevels x = two(down, wanting, may, 4);
                    boolean can = up - wanting <= 4 - wanting;
                    Check.due(when + ": up", x.moves(1, 0, -1), can ? up : -1);
                    Check.due(when + ": down", x.moves(0, 1, -1), can ? up - wanting : -1);
                    Check.due(when + ": come", x.moves(1, 3, -1), can ? wanting : -1);
                    Check.due(when + ": close", x.close(), can ? up : -1);
                    Check.due(when + ": gone", x.look(3), can ? wanting : 0);
                    Check.due(when + ": waiting", x.look(2), can ? 4 - wanting : 4);
                }
            }
        }
        Check.due("the greater is down", two(3, 2, 6, 4).moves(1, 0, -1), 3);
        Check.due("the greater is wanting", two(2, 3, 6, 4).moves(1, 0, -1), 3);
        Check.due("at most as many as may", two(3, 1, 2, 4).moves(1, 0, -1), 2);
        Check.due("but wanting at least", two(3, 2, 1, 4).moves(1, 0, -1), 2);
        Check.due("none may, none is wanting", two(6, 0, 0, 4).moves(1, 0, -1), 0);
    }

    /** Terms: UP go those who MAY, then, if these are too few, others that haven't RESIGNED. */
    private static void othersIfTooFewMay() {
        Check.due("as many may as are wanting", Check.movers(two(0, 2, 2, 4), 1, 0), "8 9");
        Check.due("one too few", Check.movers(two(0, 2, 1, 4), 1, 0), "9 4");
        Check.due("none may", Check.movers(two(0, 2, 0, 4), 1, 0), "4 5");
        LeagueLevels x = two(0, 2, 0, 4);
        x.resign(4);
        x.refuse(5);
        Check.due("not who resigned, but who refused", Check.movers(x, 1, 0), "5 6");
        Check.due("by order of going", x.moves(1, 0, 0), 5);
    }

    /** Terms: it can't be, if too few are there to go UP so. */
    private static void tooFewToGoUp() {
        LeagueLevels x = Check.with(Edge.filled(6, Edge.four(1, 3, 0, 0), Edge.four(1, 3, 0, 0)));
        x.resign(0);
        x.resign(1);
        x.resign(5);
        Check.due("two of two are enough", Check.movers(x, 1, 0), "3 4");
        x.resign(4);
        Check.due("one of two is not", x.moves(1, 0, -1), -1);
        Check.due("so it can't be", x.close(), -1);
        x.undo();
        Check.due("so it can", x.close(), 2);
    }

    /** Terms: it can't be, if too few are there to go DOWN so. */
    private static void tooFewToGoDown() {
        Check.due("four of four go down", Check.movers(two(4, 0, 4, 0), 0, 1), "0 1 2 3");
        Check.due("so it can be", two(4, 0, 4, 0).close(), 4);
        Check.due("five of four can't", two(5, 0, 5, 0).close(), -1);
        Check.due("nor is told who would", two(5, 0, 5, 0).moves(0, 1, -1), -1);
        Check.due("but four may alone", two(5, 0, 4, 0).close(), 4);
        // In the middle those who go up are not there to go down.
        int[] top = Edge.four(1, 2, 1, 0);
        LeagueLevels x = Check.with(Edge.filled(0, top, Edge.four(1, 3, 2, 0), Edge.four(1, 4, 0, 0)));
        Check.due("one up, two down, of three", x.close(), 3);
        LeagueLevels y = Check.with(Edge.filled(0, top, Edge.four(1, 3, 3, 0), Edge.four(1, 4, 0, 0)));
        Check.due("one up, three down, of three", y.close(), -1);
    }

    /** Terms: it can't be, if too few WAIT. */
    private static void tooFewWait() {
        for (int waiting = 0; waiting <= 3; waiting++) {
            for (int resigned = 0; resigned <= 3; resigned++) {
                LeagueLevels x = two(0, 0, 0, waiting);
                for (int i = 0; i < resigned; i++) {
                    x.resign(4 + i);
                }
                boolean can = resigned <= waiting;
                Check.due(waiting + " wait, wanting " + resigned, x.moves(1, 3, -1), can ? resigned : -1);
                Check.due("close", x.close(), can ? 0 : -1);
                Check.due("season", x.look(4), can ? 1 : 0);
            }
        }
    }

    /** Terms: it can't be, if there is no LEVEL. */
    private static void noLevel() {
        for (int waiting = 0; waiting <= 2; waiting++) {
            LeagueLevels x = Check.with(Edge.filled(waiting));
            Check.due("close", x.close(), -1);
            Check.due("season", x.look(4), 0);
            Check.due("moves", x.moves(0, 0, -1), -1);
            Check.due("would", x.would(0), -3);
            Check.due("needs", x.needs(0), -1);
        }
    }

    private static LeagueLevels tooMany() {
        LeagueLevels x = Edge.story();
        x.resign(3);
        x.resign(5);
        return x;
    }

    /** Promise 12: NONE: it can't be (nothing changes). */
    private static void cannotBeChangesNothing() {
        Edge.idle("too few wait", EndEdgesTest::tooMany, LeagueLevels::close, -1);
        Edge.idle("too few to go down", () -> two(5, 0, 5, 0), LeagueLevels::close, -1);
        Edge.idle("too few to go up", () -> {
            LeagueLevels x = Check.with(Edge.filled(4, Edge.four(1, 2, 0, 0), Edge.four(1, 2, 0, 0)));
            x.resign(0);
            x.resign(1);
            x.resign(2);
            return x;
        }, LeagueLevels::close, -1);
        Edge.idle("no level", () -> Check.with(Edge.filled(2)), LeagueLevels::close, -1);
        Edge.idle("nothing told", LeagueLevels::new, LeagueLevels::close, -1);
    }

    /** Terms: SPARED: of the last ones, as many as DOWN, those that don't go DOWN. */
    private static void sparedAsManyAsDown() {
        Check.due("down 0", Check.movers(two(0, 0, 6, 0), 0, 2), "");
        Check.due("all go down", Check.movers(two(4, 0, 4, 0), 0, 2), "");
        Check.due("one too few may", Check.movers(two(3, 0, 2, 0), 0, 2), "1");
        Check.due("who goes down", Check.movers(two(3, 0, 2, 0), 0, 1), "2 3");
        Check.due("none may", Check.movers(two(3, 0, 0, 0), 0, 2), "1 2 3");
        Check.due("as many as there are", Check.movers(two(4, 0, 0, 0), 0, 2), "0 1 2 3");
        Check.due("more than there are", Check.movers(two(6, 0, 0, 0), 0, 2), "0 1 2 3");
        // One resigned: it is not among the last ones, and one fewer goes down.
        Check.due("as many wanting as go down", Check.movers(two(1, 1, 6, 4), 0, 2), "3");
        Check.due("nobody goes down", Check.movers(two(1, 1, 6, 4), 0, 1), "");
        Check.due("more wanting", Check.movers(two(2, 3, 6, 4), 0, 2), "3");
        Check.due("all are wanting", Check.movers(two(2, 4, 6, 4), 0, 2), "");
        LeagueLevels x = two(2, 0, 1, 4);
        Check.due("by order", x.moves(0, 2, 0), 2);
        Check.due("the last one goes down", x.moves(0, 1, 0), 3);
        // Of the middle, those who go up are not among the last ones.
        LeagueLevels y = Check.with(Edge.filled(0, Edge.four(1, 2, 2, 0), Edge.four(1, 3, 3, 9), Edge.four(1, 2, 0, 0)));
        Check.due("two of three go up, the third is spared", Check.movers(y, 1, 2), "4");
    }

    /** Terms: DOWN of the foot doesn't count. */
    private static void footDoesNotCount() {
        for (int down = 0; down <= 6; down++) {
            LeagueLevels x = Check.with(Edge.filled(1, Edge.four(1, 2, 0, 0), Edge.four(1, 2, down, 0)));
            x.resign(2);
            Check.due("nobody goes down", x.moves(1, 1, -1), 0);
            Check.due("nobody is spared", x.moves(1, 2, -1), 0);
            Check.due("it can be", x.close(), 0);
            LeagueLevels y = Check.with(Edge.filled(1, Edge.four(1, 2, down, 0)));
            Check.due("nor of the top alone", y.moves(0, 1, -1), 0);
            Check.due("nor spared", y.moves(0, 2, -1), 0);
            Check.due("it can be", y.close(), 0);
        }
    }

    /** Terms: to the foot COME as many that WAIT as its WANTING, the first by number; to others nobody. */
    private static void comeToTheFootAlone() {
        LeagueLevels x = Check.with("club p 0 0 grade 0;" + Edge.filled(1, Edge.four(1, 2, 0, 0), Edge.four(1, 2, 0, 0)));
        Check.due("nobody", Check.movers(x, 1, 3), "");
        x.resign(1);
        Check.due("to the top nobody", Check.movers(x, 0, 3), "");
        Check.due("the first by number", Check.movers(x, 1, 3), "0");
        x.resign(4);
        Check.due("then the other", Check.movers(x, 1, 3), "0 5");
        Check.due("would", x.would(0) + x.would(5), 2);
        Check.due("it can be", x.close(), 1);
        Check.due("nobody waits", x.look(2), 0);
        x.resign(0);
        Check.due("none is left to come", x.close(), -1);
    }

    /** Terms: those that RESIGNED are GONE for good. */
    private static void goneForGood() {
        LeagueLevels x = Check.with(Edge.filled(3, Edge.four(1, 2, 0, 0)));
        x.resign(0);
        x.close();
        for (int season = 1; season <= 3; season++) {
            Check.due("gone", x.club(0, 3), -2);
            Check.due("of no division", x.club(0, 4), -1);
            Check.due("it would be gone", x.would(0), -2);
            Check.due("can't resign", x.resign(0), false);
            Check.due("one is gone", x.look(3), 1);
            Check.due("all are clubs", x.look(1), 5);
            Check.due("the end", x.close(), 0);
        }
        x.resign(1);
        x.resign(2);
        x.close();
        Check.due("three are gone", x.look(3), 3);
        Check.due("none waits", x.look(2), 0);
    }

    /** Terms: MATCHES, what is DEDUCTED, who REFUSED are none then; it is the next SEASON (0 at first). */
    private static void behindTheEnd() {
        LeagueLevels x = Edge.story();
        Check.due("season 1", x.look(4), 1);
        x.resign(3);
        Check.due("the end", x.close(), 0);
        int[] due = {2, 8, 0, 2, 2, 0, 0, 0};
        for (int what = 0; what < 8; what++) {
            Check.due("look(" + what + ")", x.look(what), due[what]);
        }
        for (int c = 0; c < 8; c++) {
            Check.due("resigned", x.club(c, 5), 0);
            Check.due("refused", x.club(c, 6), 0);
            Check.due("deducted", x.club(c, 7), 0);
            for (int other = 0; other < 8; other++) {
                Check.due("no match", x.match(c, other, 0), -1);
            }
            if (x.club(c, 3) >= 0) {
                for (int what = 0; what < 5; what++) {
                    Check.due("of(" + c + ", " + what + ")", x.of(c, what), 0);
                }
                Check.due("points", x.points(c), 0);
                Check.due("parted anew", x.club(c, 4), x.parted(c));
            }
        }
        for (int level = 0; level < 2; level++) {
            Check.due("the fewest miles", x.level(level, 6), x.level(level, 7));
        }
    }

    /** Promise 20: NONE: there is none such, or another what. */
    private static void levelNoneSuch() {
        LeagueLevels x = Edge.story();
        for (int what = 0; what < 8; what++) {
            for (int level : new int[] {-1, -2, 2, 3, 4, Edge.MIN, Edge.MAX}) {
                Check.due("level(" + level + ", " + what + ")", x.level(level, what), -1);
            }
            Check.due("there is one", x.level(1, what) >= 0, true);
        }
        for (int what : new int[] {-1, -2, 8, 9, Edge.MIN, Edge.MAX}) {
            Check.due("level(0, " + what + ")", x.level(0, what), -1);
        }
    }

    /** Promise 21: i NONE: how many; NONE: there is none such, another what, or the END can't be. */
    private static void movesNoneSuch() {
        LeagueLevels x = two(3, 1, 3, 4);
        int[][] counts = {{0, 2, 1, 0}, {3, 0, 0, 1}};
        for (int level = 0; level < 2; level++) {
            for (int what = 0; what < 4; what++) {
                int n = counts[level][what];
                Check.due("how many, " + level + " " + what, x.moves(level, what, -1), n);
                for (int i : new int[] {-2, -3, Edge.MIN, n, n + 1, 30, Edge.MAX}) {
                    Check.due("moves(" + level + ", " + what + ", " + i + ")", x.moves(level, what, i), -1);
                }
                for (int i = 0; i < n; i++) {
                    Check.due("there is one", x.moves(level, what, i) >= 0, true);
                }
            }
        }
        for (int bad : new int[] {-1, -2, 4, 5, Edge.MIN, Edge.MAX}) {
            Check.due("another what", x.moves(0, bad, -1), -1);
            Check.due("another what", x.moves(1, bad, 0), -1);
            Check.due("no level", x.moves(bad, 0, -1), -1);
            Check.due("no level", x.moves(bad, 1, 0), -1);
        }
        Check.due("no level below the foot", x.moves(2, 0, -1), -1);
        LeagueLevels y = tooMany();
        for (int what = 0; what < 4; what++) {
            Check.due("it can't be", y.moves(0, what, -1), -1);
            Check.due("it can't be", y.moves(1, what, -1), -1);
            Check.due("it can't be", y.moves(1, what, 0), -1);
        }
    }

    /** Promise 22: NONE: it would WAIT; -2: it is GONE then; -3: there is none such, or the END can't be. */
    private static void wouldNoneSuch() {
        LeagueLevels x = Edge.story();
        for (int club : Edge.NO_CLUBS) {
            Check.due("would(" + club + ")", x.would(club), -3);
        }
        Check.due("it waits still", x.would(Edge.WAITS), -1);
        Check.due("it is gone still", x.would(Edge.GONE), -2);
        x.resign(0);
        Check.due("it would be gone", x.would(0), -2);
        Check.due("it would come", x.would(Edge.WAITS), 1);
        x.resign(3);
        for (int club = -1; club <= 8; club++) {
            Check.due("it can't be, would(" + club + ")", x.would(club), -3);
        }
    }

    /** Promise 23: the least GRADE (0 .. 9). */
    private static void needsLeastGrade() {
        for (int need = 0; need <= 9; need++) {
            for (int grade : new int[] {0, 4, 9}) {
                LeagueLevels x = Check.with(Edge.filled(0, Edge.four(1, 2, 1, need), Edge.four(1, 2, 0, 0)));
                x.grade(2, grade);
                Check.due("needs, where it is " + need, x.needs(2), need);
                Check.due("its grade stays", x.club(2, 2), grade);
            }
        }
        // Wanting: with no grade, unless another one may.
        LeagueLevels x = two(0, 1, 0, 1);
        Check.due("the first one goes up with none", x.needs(4), 0);
        Check.due("the second one with 5", x.needs(5), 5);
        x.grade(9, 5);
        Check.due("now the first one needs it too", x.needs(4), 5);
        Check.due("the last one does with it", x.needs(9), 5);
    }

    /** Promise 23: NONE: with none, or there is none such; where the END can't be, nobody does. */
    private static void needsNone() {
        LeagueLevels x = Edge.story();
        for (int club : Edge.NOT_PLAYING) {
            Check.due("needs(" + club + ")", x.needs(club), -1);
        }
        Check.due("of the top", x.needs(0), -1);
        Check.due("who refused", x.needs(4), -1);
        Check.due("another one does", x.needs(5), 5);
        x.resign(5);
        Check.due("who resigned", x.needs(5), -1);
        LeagueLevels y = tooMany();
        for (int club = 0; club < 8; club++) {
            Check.due("it can't be, needs(" + club + ")", y.needs(club), -1);
        }
        LeagueLevels z = two(0, 0, 0, 0);
        for (int club = 0; club < 10; club++) {
            Check.due("nobody goes up", z.needs(club), -1);
        }
        // With it too many would go up: then too few are there to go down.
        LeagueLevels w = two(5, 0, 4, 0);
        Check.due("the fifth makes it impossible", w.needs(4), -1);
        Check.due("of the four each needs 5", w.needs(9), 5);
    }

    /** Terms: PARTED: one division, two of two. */
    private static void partedSmallest() {
        LeagueLevels x = Check.with(Edge.filled(0, Edge.four(1, 2, 0, 0)));
        Check.due("one division", x.parted(0) + x.parted(1), 0);
        Check.due("no miles", x.level(0, 7), 0);
        LeagueLevels y = Check.with("level 2 of 2 down 0 need 0;club a 0 0 grade 0 in 0 1;club b 99 99 grade 0 in 0 1;"
                + "club c 0 1 grade 0 in 0 0;club d 99 98 grade 0 in 0 0;");
        Check.due("division 0 has the least club", y.parted(0), 0);
        Check.due("with c", y.parted(2), 0);
        Check.due("division 1 the least of those left", y.parted(1), 1);
        Check.due("with d", y.parted(3), 1);
        Check.due("2 miles", y.level(0, 7), 2);
        Check.due("now", y.level(0, 6), 140 + 138);
    }

    /** Terms: PARTED: twelve clubs in two of six and in three of four. */
    private static void partedLargest() {
        for (int divisions = 2; divisions <= 3; divisions++) {
            StringBuilder b = new StringBuilder("level ");
            b.append(divisions).append(" of ").append(12 / divisions).append(" down 0 need 0;");
            for (int c = 0; c < 12; c++) {
                // Those of one place are told far from each other; the first one is of the last place.
                int place = divisions - 1 - c % divisions;
                b.append("club ").append(Edge.nameOf(c)).append(40 * place).append(' ').append(c / divisions);
                b.append("grade0in0 ").append(c * divisions / 12).append(';');
            }
            LeagueLevels x = Check.with(b.toString());
            for (int c = 0; c < 12; c++) {
                Check.due("parted(" + c + ") of " + divisions, x.parted(c), c % divisions);
            }
            int size = 12 / divisions;
            Check.due("miles", x.level(0, 7), divisions * (size * size * size - size) / 6);
            x.close();
            Check.due("so it is then", x.level(0, 6), x.level(0, 7));
        }
    }

    /** Terms: of several ways the first, by CLUBS of DIVISION 0, then of DIVISION 1. */
    private static void partedFirstWay() {
        int[][] shapes = {{1, 6}, {2, 2}, {2, 6}, {3, 2}, {3, 4}};
        for (int[] shape : shapes) {
            LeagueLevels x = Check.with(Edge.filled(0, Edge.four(shape[0], shape[1], 0, 0)));
            for (int c = 0; c < shape[0] * shape[1]; c++) {
                Check.due("all ways are alike", x.parted(c), c / shape[1]);
            }
        }
        // Three at each of two places: one division has one of each, 50 miles in all. a with b is the first such way.
        LeagueLevels x = Check.with("level 3 of 2 down 0 need 0;club a 0 0 grade 0 in 0 0;club b 50 0 grade 0 in 0 0;"
                + "club c 0 0 grade 0 in 0 1;club d 50 0 grade 0 in 0 1;club e 0 0 grade 0 in 0 2;"
                + "club f 50 0 grade 0 in 0 2;");
        int[] due = {0, 0, 1, 2, 1, 2};
        for (int c = 0; c < 6; c++) {
            Check.due("parted(" + c + ")", x.parted(c), due[c]);
        }
        // a alone is far away, with b, c or d it is as far: b is the first; then c d and e f are as near as c e and d f.
        LeagueLevels y = Check.with("level 3 of 2 down 0 need 0;club a 0 0 grade 0 in 0 0;club b 50 0 grade 0 in 0 1;"
                + "club c 50 0 grade 0 in 0 2;club d 50 0 grade 0 in 0 0;club e 50 0 grade 0 in 0 1;"
                + "club f 50 0 grade 0 in 0 2;");
        for (int c = 0; c < 6; c++) {
            Check.due("then of division 1, parted(" + c + ")", y.parted(c), c / 2);
        }
    }

    /** Promise 24: NONE: no CLUB of a DIVISION. */
    private static void partedNone() {
        LeagueLevels x = Edge.story();
        for (int club : Edge.NOT_PLAYING) {
            Check.due("parted(" + club + ")", x.parted(club), -1);
        }
        // As it is now: who resigned is still there, who waits is not.
        x.resign(3);
        Check.due("who resigned", x.parted(3), 0);
        Check.due("without a pyramid", new LeagueLevels().parted(0), -1);
    }

    /** Promise 25: of several the first (the lesser one's number, then the other one's). */
    private static void swapFirst() {
        LeagueLevels x = Check.with("level 2 of 2 down 0 need 0;club a 0 0 grade 0 in 0 0;club b 50 0 grade 0 in 0 0;"
                + "club c 0 0 grade 0 in 0 1;club d 50 0 grade 0 in 0 1;");
        // a with d and b with c save 100 both.
        Check.due("the lesser", x.swap(0, 0), 0);
        Check.due("the other", x.swap(0, 1), 3);
        Check.due("saved", x.swap(0, 2), 100);
        LeagueLevels y = Check.with("level 3 of 2 down 0 need 0;club a 50 0 grade 0 in 0 2;club b 0 0 grade 0 in 0 2;"
                + "club c 50 0 grade 0 in 0 1;club d 0 0 grade 0 in 0 1;club e 0 0 grade 0 in 0 0;club f 0 0 grade 0 in 0 0;");
        // a with d, b with c save 100; all with e or f save none.
        Check.due("the lesser", y.swap(0, 0), 0);
        Check.due("the other", y.swap(0, 1), 3);
        Check.due("saved", y.swap(0, 2), 100);
        LeagueLevels z = Check.with("level 2 of 3 down 0 need 0;club a 9 0 grade 0 in 0 0;club b 0 0 grade 0 in 0 0;"
                + "club c 0 0 grade 0 in 0 0;club d 0 0 grade 0 in 0 1;club e 9 0 grade 0 in 0 1;club f 9 0 grade 0 in 0 1;");
        Check.due("a", z.swap(0, 0), 0);
        Check.due("with d", z.swap(0, 1), 3);
        Check.due("saved", z.swap(0, 2), 36);
    }

    /** Promise 25: NONE: none saves some, there is no such LEVEL, or another what. */
    private static void swapNone() {
        LeagueLevels x = Check.with("level 2 of 2 down 0 need 0;club a 0 0 grade 0 in 0 0;club b 1 0 grade 0 in 0 0;"
                + "club c 0 0 grade 0 in 0 1;club d 1 0 grade 0 in 0 1;");
        Check.due("2 miles saved are some", x.swap(0, 2), 2);
        for (int bad : new int[] {-1, -2, 3, 4, Edge.MIN, Edge.MAX}) {
            Check.due("another what", x.swap(0, bad), -1);
        }
        for (int bad : new int[] {-1, -2, 1, 2, 3, 4, Edge.MIN, Edge.MAX}) {
            Check.due("no level", x.swap(bad, 0), -1);
        }
        x.close();
        LeagueLevels one = Check.with(Edge.filled(0, Edge.four(1, 6, 0, 0)));
        LeagueLevels alike = Check.with(Edge.filled(0, Edge.four(3, 4, 0, 0)));
        for (int what = 0; what < 3; what++) {
            Check.due("none saves some", x.swap(0, what), -1);
            Check.due("one division", one.swap(0, what), -1);
            Check.due("all at one place", alike.swap(0, what), -1);
            Check.due("nothing told", new LeagueLevels().swap(0, what), -1);
        }
    }
}
