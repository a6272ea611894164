/** Promises 8 (resign), 9 (refuse), 10 (deduct), 11 (grade), 13 (undo). */
public final class DeedsTest {
    private static final String PYRAMID = "level 1 of 2 down 1 need 5;level 1 of 2 down 0 need 0;"
            + "club a 0 0 grade 0 in 0 0;club b 0 0 grade 1 in 0 0;club c 0 0 grade 2 in 1 0;"
            + "club d 0 0 grade 3 in 1 0;club e 0 0 grade 4;club f 0 0 grade 4;";

    public static void main(String[] args) {
        resign();
        refuse();
        deduct();
        grade();
        undo();
        eightAreKept();
        noneBehindTheEnd();
        Check.finish();
    }

    private static void resign() {
        LeagueLevels x = Check.with(PYRAMID);
        Check.due("it has not", x.club(2, 5), 0);
        Check.due("it resigns", x.resign(2), true);
        Check.due("it has", x.club(2, 5), 1);
        Check.due("once alone", x.resign(2), false);
        Check.due("who waits can't", x.resign(4), false);
        Check.due("no club", x.resign(6), false);
        Check.due("no club", x.resign(-1), false);
        Check.due("far ones", x.resign(Integer.MAX_VALUE), false);
        Check.due("far ones", x.resign(Integer.MIN_VALUE), false);
        Check.due("one deed", x.look(6), 1);
        Check.due("it stands where it stood", x.club(2, 3), 1);
        Check.due("another one", x.resign(0), true);
        Check.due("no club is left over", x.close(), 1);
        Check.due("it is gone", x.club(2, 3), -2);
        Check.due("it resigned for that season alone", x.club(2, 5), 0);
        Check.due("who is gone can't", x.resign(2), false);
        Check.due("who came can", x.resign(4), true);
    }

    private static void refuse() {
        LeagueLevels x = Check.with(PYRAMID);
        Check.due("it has not", x.club(2, 6), 0);
        Check.due("it refuses", x.refuse(2), true);
        Check.due("it has", x.club(2, 6), 1);
        Check.due("it did not resign", x.club(2, 5), 0);
        Check.due("once alone", x.refuse(2), false);
        Check.due("who resigned can refuse", x.resign(3) && x.refuse(3), true);
        Check.due("who refused can resign", x.resign(2), true);
        Check.due("the top one too", x.refuse(0), true);
        Check.due("who waits can't", x.refuse(4), false);
        Check.due("no club", x.refuse(6), false);
        Check.due("no club", x.refuse(-1), false);
        Check.due("far ones", x.refuse(Integer.MIN_VALUE), false);
        Check.due("it ends", x.close(), 0);
        Check.due("none refused in the next season", x.club(0, 6), 0);
        Check.due("who is gone can't", x.refuse(2), false);
        Check.due("so it can again", x.refuse(0), true);
    }

    private static void deduct() {
        LeagueLevels x = Check.with(PYRAMID);
        Check.due("none", x.club(0, 7), 0);
        Check.due("one point", x.deduct(0, 1), true);
        Check.due("and 99 more", x.deduct(0, 99), true);
        Check.due("in all", x.club(0, 7), 100);
        Check.due("below 0", x.points(0), -100);
        Check.due("not 0", x.deduct(0, 0), false);
        Check.due("not 100", x.deduct(0, 100), false);
        Check.due("not below 0", x.deduct(0, -1), false);
        Check.due("not far ones", x.deduct(0, Integer.MAX_VALUE), false);
        Check.due("not far ones", x.deduct(0, Integer.MIN_VALUE), false);
        for (int i = 0; i < 9; i++) {
            Check.due("99 more", x.deduct(0, 99), true);
        }
        Check.due("991", x.club(0, 7), 991);
        Check.due("above 999", x.deduct(0, 9), false);
        Check.due("991 still", x.club(0, 7), 991);
        Check.due("999 in all", x.deduct(0, 8), true);
        Check.due("not one more", x.deduct(0, 1), false);
        Check.due("points", x.points(0), -999);
        Check.due("another club has its own", x.deduct(1, 5), true);
        Check.due("who waits can't", x.deduct(4, 1), false);
        Check.due("no club", x.deduct(6, 1), false);
        Check.due("no club", x.deduct(-1, 1), false);
        Check.due("it ends", x.close(), 0);
        Check.due("none in the next season", x.club(0, 7), 0);
    }

    private static void grade() {
        LeagueLevels x = Check.with(PYRAMID);
        Check.due("it is so", x.grade(0, 0), false);
        Check.due("another one", x.grade(0, 9), true);
        Check.due("it has it", x.club(0, 2), 9);
        Check.due("not 10", x.grade(0, 10), false);
        Check.due("not below 0", x.grade(0, -1), false);
        Check.due("0 again", x.grade(0, 0), true);
        Check.due("who waits can", x.grade(4, 7), true);
        Check.due("it has it", x.club(4, 2), 7);
        Check.due("no club", x.grade(6, 1), false);
        Check.due("no club", x.grade(-1, 1), false);
        x.resign(0);
        Check.due("it goes", x.close(), 1);
        Check.due("who is gone can't", x.grade(0, 5), false);
        Check.due("it keeps its grade", x.club(0, 2), 0);
        Check.due("the others keep theirs", x.club(4, 2), 7);
    }

    private static void undo() {
        LeagueLevels x = Check.with(PYRAMID);
        Check.due("nothing", x.undo(), false);
        Check.play(x, "a 1-0 b;");
        Check.play(x, "");
        x.resign(2);
        x.refuse(3);
        x.deduct(0, 5);
        x.deduct(0, 7);
        x.grade(4, 8);
        Check.play(x, "b 2-2 a;c 0-3 d;");
        Check.due("an empty day is no deed", x.look(6), 7);
        x.resign(2);
        x.grade(0, 0);
        x.deduct(0, 0);
        Check.tell(x, "a 1-0 b;");
        x.day();
        Check.due("nor what was not done", x.look(6), 7);
        Check.due("the latest day", x.undo(), true);
        Check.due("its matches are none", x.look(5), 1);
        Check.due("each of them", x.match(1, 0, 0), -1);
        Check.due("each of them", x.match(2, 3, 0), -1);
        Check.due("nor their points", x.points(3), 0);
        Check.due("the day ahead stands", x.match(0, 1, 0), 1);
        Check.due("points less what is deducted", x.points(0), 3 - 12);
        Check.due("the grade", x.undo(), true);
        Check.due("is what it was", x.club(4, 2), 4);
        Check.due("the latest deduct", x.undo(), true);
        Check.due("alone", x.club(0, 7), 5);
        Check.due("the other", x.undo(), true);
        Check.due("none", x.club(0, 7), 0);
        Check.due("the refusal", x.undo(), true);
        Check.due("none", x.club(3, 6), 0);
        Check.due("still resigned", x.club(2, 5), 1);
        Check.due("the resignation", x.undo(), true);
        Check.due("none", x.club(2, 5), 0);
        Check.due("the day", x.undo(), true);
        Check.due("no match", x.look(5), 0);
        Check.due("nothing more", x.undo(), false);
        Check.tell(x, "b 2-2 a;a 1-0 b;");
        Check.due("they can be told again", x.day(), 2);
    }

    private static void eightAreKept() {
        LeagueLevels x = Check.with(PYRAMID);
        Check.play(x, "a 1-0 b;");
        for (int i = 1; i <= 9; i++) {
            Check.due("deduct " + i, x.deduct(1, i), true);
            Check.due("kept", x.look(6), Math.min(8, i + 1));
        }
        for (int i = 9; i >= 2; i--) {
            Check.due("undo of " + i, x.undo(), true);
            Check.due("deducted", x.club(1, 7), i * (i - 1) / 2);
        }
        Check.due("the ninth is not kept", x.undo(), false);
        Check.due("so it stays", x.club(1, 7), 1);
        Check.due("and the day", x.look(5), 1);
    }

    private static void noneBehindTheEnd() {
        LeagueLevels x = Check.with(PYRAMID);
        x.grade(2, 6);
        x.resign(0);
        x.resign(1);
        x.resign(2);
        Check.due("it can't be", x.close(), -1);
        Check.due("nothing changes", x.look(6), 4);
        Check.due("undone", x.undo(), true);
        Check.due("it can be now", x.close(), 2);
        Check.due("nothing can be undone", x.look(6), 0);
        Check.due("nothing is", x.undo(), false);
        Check.due("the grade stays", x.club(2, 2), 6);
    }
}
