import java.util.function.Supplier;
import java.util.function.ToLongFunction;

/** What the tests of boundaries share: texts with a marked place, filled pyramids, calls that may change nothing. */
final class Edge {
    static final int MIN = Integer.MIN_VALUE;
    static final int MAX = Integer.MAX_VALUE;

    /**
     * In season 1: a and c at the top, d with w and e with f at the foot, v WAITS, b is GONE. Two matches told, points
     * deducted of d, e refused, v has a new grade, a table is shown.
     */
    static final String STORY = "level 1 of 2 down 1 need 5;level 2 of 2 down 0 need 0;"
            + "club a 0 0 grade 5 in 0 0;club b 3 4 grade 5 in 0 0;club c 6 8 grade 5 in 1 0;"
            + "club d 9 12 grade 4 in 1 0;club e 30 40 grade 5 in 1 1;club f 33 44 grade 0 in 1 1;"
            + "club w 1 1 grade 2;club v 2 2 grade 3;";
    static final int GONE = 1;
    static final int WAITS = 7;

    /** No CLUB of STORY, below, above and far away. */
    static final int[] NO_CLUBS = {-1, -2, -3, MIN, 8, 9, 29, 30, 31, 1 << 16, MAX};
    /** No CLUB of a DIVISION of STORY. */
    static final int[] NOT_PLAYING = {-1, -2, -3, MIN, 8, 9, 29, 30, 31, 1 << 16, MAX, GONE, WAITS};

    private Edge() {
    }

    static LeagueLevels story() {
        LeagueLevels x = Check.with(STORY);
        x.resign(GONE);
        x.close();
        Check.play(x, "a 2-1 c;d 0-0 w;");
        x.deduct(3, 9);
        x.refuse(4);
        x.grade(WAITS, 9);
        x.show(1, 0);
        return x;
    }

    /** The text without the sign ^ that marks a place in it. */
    static String plain(String marked) {
        return marked.replace("^", "");
    }

    static void pyramidFault(String marked, int fault) {
        LeagueLevels x = new LeagueLevels();
        Check.tell(x, plain(marked));
        Check.due("no pyramid: " + marked, x.pyramid(), -1);
        Check.due("fault of: " + marked, x.fault(0), fault);
        Check.due("place in: " + marked, x.fault(1), marked.indexOf('^'));
        Check.due("empty tape: " + marked, x.look(7), 0);
    }

    static LeagueLevels sound(String text, int clubs) {
        LeagueLevels x = new LeagueLevels();
        Check.tell(x, text);
        Check.due("a pyramid: " + text, x.pyramid(), clubs);
        Check.due("no fault: " + text, x.fault(0), 0);
        Check.due("no place: " + text, x.fault(1), -1);
        Check.due("empty tape: " + text, x.look(7), 0);
        return x;
    }

    static String nameOf(int club) {
        return club < 26 ? String.valueOf((char) ('a' + club)) : "z" + (char) ('a' + club - 26);
    }

    /** Levels, each of four numbers (DIVISIONS, SIZE, DOWN, NEED), with all their clubs, then some that WAIT. */
    static String filled(int waiting, int[]... levels) {
        StringBuilder b = new StringBuilder();
        for (int[] l : levels) {
            b.append("level").append(l[0]).append("of").append(l[1]).append("down").append(l[2]);
            b.append("need").append(l[3]).append(';');
        }
        int club = 0;
        for (int level = 0; level < levels.length; level++) {
            for (int i = 0; i < levels[level][0] * levels[level][1]; i++) {
                b.append("club ").append(nameOf(club)).append("0 0grade0in").append(level).append(' ');
                b.append(i / levels[level][1]).append(';');
                club++;
            }
        }
        for (int i = 0; i < waiting; i++) {
            b.append("club ").append(nameOf(club)).append("0 0grade0;");
            club++;
        }
        return b.toString();
    }

    static int[] four(int divisions, int size, int down, int need) {
        return new int[] {divisions, size, down, need};
    }

    /** The call answers as due, and the object then answers all questions as one that never got this call. */
    static void idle(String what, Supplier<LeagueLevels> maker, ToLongFunction<LeagueLevels> call, long due) {
        LeagueLevels x = maker.get();
        Check.due(what, call.applyAsLong(x), due);
        Check.due("nothing changes behind " + what, answers(x, true), answers(maker.get(), true));
    }

    /** As idle, but for what a text changes even with a FAULT: the tape is empty, the FAULT is told. */
    static void idleText(String what, Supplier<LeagueLevels> maker, ToLongFunction<LeagueLevels> call) {
        LeagueLevels x = maker.get();
        Check.due(what, call.applyAsLong(x), -1);
        Check.due("the tape is empty behind " + what, x.look(7), 0);
        Check.due("all else stays behind " + what, answers(x, false), answers(maker.get(), false));
    }

    static long bit(boolean b) {
        return b ? 1 : 0;
    }

    /** What all questions answer, some 350 for a small pyramid, and what is left when all is undone. */
    static String answers(LeagueLevels x, boolean withTape) {
        StringBuilder b = new StringBuilder("look");
        for (int what = 0; what < (withTape ? 8 : 7); what++) {
            b.append(' ').append(x.look(what));
        }
        if (withTape) {
            b.append(" fault ").append(x.fault(0)).append(' ').append(x.fault(1));
        }
        b.append(" out");
        int shown = 0;
        for (int sign = x.out(0); sign >= 0; sign = x.out(++shown)) {
            b.append(' ').append(sign);
        }
        int clubs = x.look(1);
        for (int c = 0; c < clubs; c++) {
            clubAnswers(x, c, clubs, b);
        }
        for (int l = 0; l < x.look(0); l++) {
            levelAnswers(x, l, b);
        }
        b.append(" undone");
        int undone = 0;
        while (undone < 9 && x.undo()) {
            undone++;
        }
        b.append(' ').append(undone).append(' ').append(x.look(5));
        for (int c = 0; c < clubs; c++) {
            for (int what = 2; what < 8; what++) {
                b.append(' ').append(x.club(c, what));
            }
        }
        return b.toString();
    }

    private static void clubAnswers(LeagueLevels x, int c, int clubs, StringBuilder b) {
        b.append(" club ").append(c);
        for (int what = 0; what < 8; what++) {
            b.append(' ').append(x.club(c, what));
        }
        b.append(' ').append(x.would(c)).append(' ').append(x.needs(c)).append(' ').append(x.parted(c));
        if (x.club(c, 3) < 0) {
            return;
        }
        for (int what = 0; what < 8; what++) {
            b.append(' ').append(x.of(c, what));
        }
        for (int other = 0; other < clubs; other++) {
            if (other != c && x.club(other, 4) == x.club(c, 4)) {
                b.append(' ').append(x.match(c, other, 0)).append('-').append(x.match(c, other, 1));
            }
        }
    }

    private static void levelAnswers(LeagueLevels x, int l, StringBuilder b) {
        b.append(" level ").append(l);
        for (int what = 0; what < 8; what++) {
            b.append(' ').append(x.level(l, what));
        }
        for (int what = 0; what < 4; what++) {
            b.append(" moves ").append(Check.movers(x, l, what));
        }
    }
}
