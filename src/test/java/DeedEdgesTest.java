/** Promises 8 to 11 and 13: what is refused changes nothing, and each bound is kept. One method for each sentence. */
public final class DeedEdgesTest {
    public static void main(String[] args) {
        resignNoneSuch();
        resignItDid();
        refuseNoneSuch();
        refuseItDid();
        forThisSeasonAlone();
        deductNoClub();
        deductOneTo99();
        deduct999InAll();
        pointsBelowNone();
        gradeNoneSuch();
        gradeCannotBe();
        gradeIsSo();
        undoNone();
        undoEight();
        undoOfEachKind();
        undoWhatWasDone();
        undoInThisSeason();
        askingChangesNothing();
        Check.finish();
    }

    /** Promise 8: false: there is none such (no CLUB of a DIVISION). */
    private static void resignNoneSuch() {
        for (int club : Edge.NOT_PLAYING) {
            Edge.idle("resign(" + club + ")", Edge::story, x -> Edge.bit(x.resign(club)), 0);
        }
        LeagueLevels x = Check.with(Edge.filled(0, Edge.four(2, 6, 0, 0), Edge.four(2, 6, 0, 0), Edge.four(1, 6, 0, 0)));
        Check.due("the first of thirty", x.resign(0), true);
        Check.due("the last of thirty", x.resign(29), true);
        Check.due("none such", x.resign(30), false);
        Check.due("without a pyramid", new LeagueLevels().resign(0), false);
    }

    private static LeagueLevels resigned() {
        LeagueLevels x = Edge.story();
        Check.due("it resigns", x.resign(2), true);
        return x;
    }

    /** Promise 8: false: it did. */
    private static void resignItDid() {
        Edge.idle("resign(2) again", DeedEdgesTest::resigned, x -> Edge.bit(x.resign(2)), 0);
        LeagueLevels x = resigned();
        Check.due("it did", x.club(2, 5), 1);
        Check.due("undone", x.undo(), true);
        Check.due("it did not", x.club(2, 5), 0);
        Check.due("so it can again", x.resign(2), true);
    }

    /** Promise 9: false likewise: there is none such. */
    private static void refuseNoneSuch() {
        for (int club : Edge.NOT_PLAYING) {
            Edge.idle("refuse(" + club + ")", Edge::story, x -> Edge.bit(x.refuse(club)), 0);
        }
        LeagueLevels x = Check.with(Edge.filled(0, Edge.four(2, 6, 0, 0), Edge.four(2, 6, 0, 0), Edge.four(1, 6, 0, 0)));
        Check.due("the first of thirty", x.refuse(0), true);
        Check.due("the last of thirty", x.refuse(29), true);
        Check.due("none such", x.refuse(30), false);
        Check.due("without a pyramid", new LeagueLevels().refuse(0), false);
    }

    /** Promise 9: false likewise: it did. */
    private static void refuseItDid() {
        Edge.idle("refuse(4) again", Edge::story, x -> Edge.bit(x.refuse(4)), 0);
        LeagueLevels x = Edge.story();
        Check.due("it did", x.club(4, 6), 1);
        Check.due("another did not", x.club(5, 6), 0);
        Check.due("who refused can resign", x.resign(4), true);
        Check.due("both", x.club(4, 5) + x.club(4, 6), 2);
        Check.due("who resigned can refuse", x.resign(5) && x.refuse(5), true);
    }

    /** Terms: both for this SEASON alone. */
    private static void forThisSeasonAlone() {
        LeagueLevels x = Check.with(Edge.filled(1, Edge.four(1, 3, 0, 0)));
        x.resign(0);
        x.refuse(0);
        x.refuse(1);
        Check.due("the end", x.close(), 0);
        Check.due("it is gone", x.club(0, 3), -2);
        for (int c = 0; c < 4; c++) {
            Check.due("none resigned, " + c, x.club(c, 5), 0);
            Check.due("none refused, " + c, x.club(c, 6), 0);
        }
        Check.due("none is wanting", x.level(0, 4), 0);
        Check.due("it refuses again", x.refuse(1), true);
        Check.due("it resigns", x.resign(1), true);
    }

    /** Promise 10: false: no CLUB of a DIVISION. */
    private static void deductNoClub() {
        for (int club : Edge.NOT_PLAYING) {
            Edge.idle("deduct(" + club + ", 1)", Edge::story, x -> Edge.bit(x.deduct(club, 1)), 0);
        }
        Check.due("without a pyramid", new LeagueLevels().deduct(0, 1), false);
    }

    /** Promise 10: so many POINTS (1 .. 99); false: another number. */
    private static void deductOneTo99() {
        for (int n : new int[] {0, 100, 101, 999, 1000, -1, -99, Edge.MIN, Edge.MIN + 1, Edge.MAX, Edge.MAX - 998}) {
            Edge.idle("deduct(0, " + n + ")", Edge::story, x -> Edge.bit(x.deduct(0, n)), 0);
        }
        for (int n : new int[] {1, 2, 98, 99}) {
            LeagueLevels x = Edge.story();
            Check.due("deduct(0, " + n + ")", x.deduct(0, n), true);
            Check.due("deducted", x.club(0, 7), n);
            Check.due("points", x.points(0), 3 - n);
        }
    }

    /** A club of which so many points are deducted. */
    private static LeagueLevels less(int n) {
        LeagueLevels x = Edge.story();
        for (int left = n; left > 0; left -= Math.min(left, 99)) {
            x.deduct(0, Math.min(left, 99));
        }
        Check.due("deducted so far", x.club(0, 7), n);
        return x;
    }

    /** Promise 10: more; false: above 999 in all. */
    private static void deduct999InAll() {
        for (int n : new int[] {1, 50, 99}) {
            Check.due("999 in all by " + n, less(999 - n).deduct(0, n), true);
            Edge.idle("1000 in all by " + n, () -> less(1000 - n), x -> Edge.bit(x.deduct(0, n)), 0);
        }
        LeagueLevels x = less(999);
        Check.due("999", x.club(0, 7), 999);
        Check.due("points", x.points(0), 3 - 999);
        Check.due("another club has its own", x.deduct(2, 99), true);
        Check.due("undone", x.undo() && x.undo(), true);
        Check.due("so there is room again", x.deduct(0, 1), true);
    }

    /** Terms: POINTS below 0 may be. */
    private static void pointsBelowNone() {
        LeagueLevels x = Edge.story();
        x.deduct(0, 3);
        Check.due("none", x.points(0), 0);
        x.deduct(0, 1);
        Check.due("below", x.points(0), -1);
        LeagueLevels y = Check.with(Edge.filled(0, Edge.four(1, 2, 0, 0)));
        for (int i = 0; i < 10; i++) {
            y.deduct(0, 99);
        }
        y.deduct(0, 9);
        Check.due("the fewest", y.points(0), -999);
        Check.due("it is last", y.of(0, 5), 2);
    }

    /** Promise 11: GRADE of a CLUB that isn't GONE; false: there is none such. */
    private static void gradeNoneSuch() {
        for (int club : Edge.NO_CLUBS) {
            Edge.idle("grade(" + club + ", 1)", Edge::story, x -> Edge.bit(x.grade(club, 1)), 0);
        }
        Edge.idle("grade of who is gone", Edge::story, x -> Edge.bit(x.grade(Edge.GONE, 1)), 0);
        LeagueLevels x = Edge.story();
        Check.due("who waits", x.grade(Edge.WAITS, 1), true);
        Check.due("has it", x.club(Edge.WAITS, 2), 1);
        LeagueLevels y = resigned();
        Check.due("who resigned isn't gone", y.grade(2, 1), true);
        Check.due("has it", y.club(2, 2), 1);
        Check.due("without a pyramid", new LeagueLevels().grade(0, 1), false);
    }

    /** Promise 11: false: it can't be. */
    private static void gradeCannotBe() {
        for (int g : new int[] {-1, -2, 10, 11, 100, Edge.MIN, Edge.MAX}) {
            Edge.idle("grade(0, " + g + ")", Edge::story, x -> Edge.bit(x.grade(0, g)), 0);
        }
        LeagueLevels x = Edge.story();
        Check.due("0 can be", x.grade(0, 0), true);
        Check.due("it has it", x.club(0, 2), 0);
        Check.due("9 can be", x.grade(0, 9), true);
        Check.due("it has it", x.club(0, 2), 9);
    }

    /** Promise 11: false: it is so. */
    private static void gradeIsSo() {
        int[] grades = {5, 5, 5, 4, 5, 0, 2, 9};
        for (int c = 0; c < 8; c++) {
            int club = c;
            Edge.idle("grade(" + c + ") as it is", Edge::story, x -> Edge.bit(x.grade(club, grades[club])), 0);
        }
    }

    private static LeagueLevels undone() {
        LeagueLevels x = Edge.story();
        int times = 0;
        while (times < 9 && x.undo()) {
            times++;
        }
        Check.due("four deeds", times, 4);
        return x;
    }

    /** Promise 13: false if there is none. */
    private static void undoNone() {
        Check.due("of a new object", new LeagueLevels().undo(), false);
        Check.due("of a new pyramid", Check.with(Edge.STORY).undo(), false);
        Edge.idle("undo() when all is undone", DeedEdgesTest::undone, x -> Edge.bit(x.undo()), 0);
    }

    /** Promise 13: 8 at most are kept. */
    private static void undoEight() {
        for (int deeds = 0; deeds <= 12; deeds++) {
            LeagueLevels x = Check.with(Edge.STORY);
            for (int i = 1; i <= deeds; i++) {
                x.deduct(0, i);
                Check.due("can be undone behind " + i, x.look(6), Math.min(i, 8));
            }
            int kept = Math.min(deeds, 8);
            int left = deeds * (deeds + 1) / 2;
            for (int i = 0; i < kept; i++) {
                left -= deeds - i;
                Check.due("undo " + i + " of " + deeds, x.undo(), true);
                Check.due("deducted", x.club(0, 7), left);
                Check.due("left to undo", x.look(6), kept - i - 1);
            }
            Check.due("no more of " + deeds, x.undo(), false);
            Check.due("what is older stays", x.club(0, 7), left);
            Check.due("a deed can be done again", x.deduct(0, 1) && x.look(6) == 1, true);
        }
    }

    /** Promise 13: the oldest of nine is not kept, of whichever kind; the ninth pushes it out. */
    private static void undoOfEachKind() {
        for (int first = 0; first < 5; first++) {
            LeagueLevels x = Check.with(Edge.STORY);
            for (int i = 0; i < 9; i++) {
                deed(x, i == 0 ? first : 5);
            }
            int undone = 0;
            while (undone < 20 && x.undo()) {
                undone++;
            }
            Check.due("eight", undone, 8);
            int[] left = {x.look(5), x.club(0, 5), x.club(0, 6), x.club(0, 7), x.club(0, 2) - 5};
            for (int kind = 0; kind < 5; kind++) {
                Check.due("deed " + first + " stays, " + kind, left[kind], kind == first ? 1 : 0);
            }
            Check.due("the eight are undone", x.club(3, 7), 0);
        }
        for (int last = 0; last < 5; last++) {
            LeagueLevels x = Check.with(Edge.STORY);
            for (int i = 0; i < 9; i++) {
                deed(x, i == 8 ? last : 5);
            }
            Check.due("the ninth", x.undo(), true);
            int[] left = {x.look(5), x.club(0, 5), x.club(0, 6), x.club(0, 7), x.club(0, 2) - 5};
            for (int kind = 0; kind < 5; kind++) {
                Check.due("deed " + last + " is undone, " + kind, left[kind], 0);
            }
            Check.due("it alone", x.club(3, 7), 8);
        }
    }

    private static void deed(LeagueLevels x, int kind) {
        switch (kind) {
            case 0 -> Check.play(x, "a 1-0 b;");
            case 1 -> Check.due("resign", x.resign(0), true);
            case 2 -> Check.due("refuse", x.refuse(0), true);
            case 3 -> Check.due("deduct", x.deduct(0, 1), true);
            case 4 -> Check.due("grade", x.grade(0, 6), true);
            default -> Check.due("deduct of another", x.deduct(3, 1), true);
        }
    }

    /** Promise 13: day() with a MATCH, and what was done: a refused call is nothing to undo. */
    private static void undoWhatWasDone() {
        LeagueLevels x = Edge.story();
        x.day();
        Check.tell(x, "a 1-0 c;");
        x.day();
        x.resign(Edge.GONE);
        x.refuse(4);
        x.deduct(0, 0);
        x.grade(0, 5);
        Check.due("four as before", x.look(6), 4);
        Check.due("undo", x.undo(), true);
        Check.due("the grade", x.club(Edge.WAITS, 2), 3);
        Check.due("undo", x.undo(), true);
        Check.due("who refused", x.club(4, 6), 0);
        Check.due("undo", x.undo(), true);
        Check.due("what is deducted", x.club(3, 7), 0);
        Check.due("the matches stand", x.look(5), 2);
        Check.due("undo", x.undo(), true);
        Check.due("the day, all of it", x.look(5), 0);
        Check.due("its goals", x.of(0, 3) + x.of(0, 4) + x.of(2, 3) + x.of(3, 2), 0);
        Check.due("no more", x.undo(), false);
        Check.due("nor the season", x.look(4), 1);
    }

    /** Promise 13: that was done in this SEASON; Terms: nothing can be undone behind the END. */
    private static void undoInThisSeason() {
        LeagueLevels x = Edge.story();
        x.grade(0, 1);
        Check.due("the end", x.close(), 0);
        Check.due("nothing can be undone", x.look(6), 0);
        Check.due("nothing is", x.undo(), false);
        Check.due("a grade stays", x.club(0, 2), 1);
        Check.due("a deed of the new season", x.deduct(0, 2), true);
        Check.due("can be", x.undo(), true);
        Check.due("it alone", x.undo(), false);
        // Where the END can't be, what was done can still be undone.
        LeagueLevels y = Edge.story();
        y.resign(3);
        y.resign(5);
        Check.due("too few wait", y.close(), -1);
        Check.due("six", y.look(6), 6);
        Check.due("undone", y.undo(), true);
        Check.due("now they are enough", y.close() >= 0, true);
    }

    /** Asking is no deed: whatever is asked, the answers are as if it had not been. */
    private static void askingChangesNothing() {
        int[] numbers = {-1, 0, 1, 2, 7, 8};
        Edge.idle("asking", Edge::story, x -> {
            long sum = 0;
            for (int a : numbers) {
                sum += x.fault(a) + x.points(a) + x.average(a) + x.would(a) + x.needs(a) + x.parted(a) + x.middle(a)
                        + x.above(a) + x.journeys(a) + x.nearest(a) + x.strangers(a) + x.out(a) + x.look(a);
                sum += x.club(a, 3) + x.of(a, 6) + x.order(a, 0) + x.level(a, 7) + x.swap(a, 2) + x.rest(a, 0);
                sum += x.versus(a, 0) + x.ranked(a, 0, 1) + x.moves(a, 0, 0) + x.match(a, 2, 0);
            }
            return sum == 0 ? 0 : 1;
        }, 1);
    }
}
