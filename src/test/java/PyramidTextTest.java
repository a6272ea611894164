/** Promises 4 (pyramid) and 6 (fault): the text of a pyramid, its faults and their places. */
public final class PyramidTextTest {
    private static final String TWO = "level 1 of 2 down 1 need 3;";

    public static void main(String[] args) {
        sound();
        notThere();
        cannotBe();
        tooMany();
        notFull();
        cutOff();
        fewerThanBefore();
        firstOfSeveral();
        whatStays();
        Check.finish();
    }

    /** The text's fault and place; 0 and -1: it has none. */
    private static void faulty(String text, int fault, int place) {
        LeagueLevels x = new LeagueLevels();
        Check.tell(x, text);
        int got = x.pyramid();
        Check.due("whether it stands: " + text, got >= 0, fault == 0);
        Check.due("fault of: " + text, x.fault(0), fault);
        Check.due("place in: " + text, x.fault(1), place);
        Check.due("the tape is empty behind: " + text, x.look(7), 0);
    }

    private static void sound() {
        LeagueLevels x = Check.with("level 3 of 4 down 6 need 9;\nlevel1of2down0need0;"
                + "club zed 99 0 grade 9 in 1 0;club y7 8grade0;club levels 007 010 grade 05 in 001 00;"
                + "club a0 0grade0in0 2;club b0 0grade0in0 2;club c0 0grade0in0 2;club d0 0grade0in0 2;"
                + "club e0 0grade0in0 0;club f0 0grade0in0 0;club g0 0grade0in0 0;club h0 0grade0in0 0;"
                + "club i0 0grade0in0 1;club j0 0grade0in0 1;club k0 0grade0in0 1;club abcdefg0 0grade0in0 1;");
        Check.due("levels", x.look(0), 2);
        Check.due("clubs", x.look(1), 15);
        Check.due("waiting", x.look(2), 1);
        int[] first = {3, 4, 6, 9};
        int[] second = {1, 2, 0, 0};
        for (int what = 0; what < 4; what++) {
            Check.due("level(0, " + what + ")", x.level(0, what), first[what]);
            Check.due("level(1, " + what + ")", x.level(1, what), second[what]);
        }
        int[] zed = {99, 0, 9, 1, 0, 0, 0, 0};
        int[] y = {7, 8, 0, -1, -1, 0, 0, 0};
        int[] levels = {7, 10, 5, 1, 0, 0, 0, 0};
        for (int what = 0; what < 8; what++) {
            Check.due("club(0, " + what + ")", x.club(0, what), zed[what]);
            Check.due("club(1, " + what + ")", x.club(1, what), y[what]);
            Check.due("club(2, " + what + ")", x.club(2, what), levels[what]);
        }
        Check.due("division", x.club(3, 4), 2);
        Check.due("no fault", x.fault(0), 0);
        Check.due("no place", x.fault(1), -1);
        Check.due("another what", x.fault(2), -1);
        Check.due("another what", x.fault(-1), -1);
        faulty("", 0, -1);
        faulty(" \n ", 0, -1);
        faulty("club a 0 0 grade 0;", 0, -1);
        faulty("club a 0 0 grade 0;" + TWO + "club b 0 0 grade 0 in 0 0;club c 0 0 grade 0 in 0 0;", 0, -1);
    }

    private static void notThere() {
        faulty("x", 1, 0);
        faulty(" ;", 1, 1);
        faulty("level", 1, 5);
        faulty("level  ", 1, 7);
        faulty("level x", 1, 6);
        faulty("level 1 off 2", 1, 8);
        faulty("level 1 of x", 1, 11);
        faulty("level 1 of 2 down", 1, 17);
        faulty("level 1 of 2 need 1", 1, 13);
        faulty("level 1 of 2 down 1 need 3", 1, 26);
        faulty("level 1 of 2 down 1 need 3 club", 1, 27);
        faulty("level 0001 of 2 down 1 need 3;", 1, 6);
        faulty("level 1 of 2 down 1 need -3;", 1, 25);
        faulty("Level 1 of 2 down 1 need 3;", 1, 0);
        faulty("lev el 1", 1, 0);
        faulty("club\t", 1, 4);
        faulty("club a\r", 1, 6);
        faulty("cluba 1 2 grade 3;", 1, 0);
        faulty("club abcdefgh 1 2 grade 3;", 1, 5);
        faulty("club 1 2 grade 3;", 1, 5);
        faulty("club a 1 grade 3;", 1, 9);
        faulty("club a 1 2 3;", 1, 11);
        faulty("club a 1 2 grade;", 1, 16);
        faulty("club a 1 2 grade 3", 1, 18);
        faulty("club a 1 2 grade 3 4;", 1, 19);
        faulty("club a 1 2 grade 3 on 0 0;", 1, 19);
        faulty("club a 1 2 grade 1000;", 1, 17);
        faulty("club a 1 2 grade 3;;", 1, 19);
        faulty(TWO + "club a 1 2 grade 3 in;", 1, 27 + 21);
        faulty(TWO + "club a 1 2 grade 3 in 0;", 1, 27 + 23);
        faulty(TWO + "club a 1 2 grade 3 in 0 0", 1, 27 + 25);
        faulty(TWO + "club a 1 2 grade 3 in 0 0 0;", 1, 27 + 26);
        for (String word : new String[] {"level", "of", "down", "need", "club", "grade", "in"}) {
            faulty("club " + word + " 1 2 grade 3;", 1, 5);
            faulty("club " + word + "x 1 2 grade 3;", 0, -1);
        }
        faulty("club a 1 2 grade 3;club b 1 2 grade 3;club a 1 2 grade 3;", 2, 43);
        faulty("club a 1 2 grade 3;club aa 1 2 grade 3;", 0, -1);
    }

    private static void cannotBe() {
        faulty("level 0 of 2 down 1 need 3;", 3, 6);
        faulty("level 4 of 2 down 1 need 3;", 3, 6);
        faulty("level 1 of 1 down 1 need 3;", 3, 11);
        faulty("level 1 of 7 down 1 need 3;", 3, 11);
        faulty("level 3 of 5 down 1 need 3;", 3, 11);
        faulty("level 3 of 4 down 1 need 3;", 5, 27);
        faulty("level 2 of 6 down 1 need 3;", 5, 27);
        faulty("level 1 of 2 down 7 need 3;", 3, 18);
        faulty("level 1 of 2 down 6 need 3;", 5, 27);
        faulty("level 1 of 2 down 1 need 10;", 3, 25);
        faulty("level 1 of 2 down 1 need 9;", 5, 27);
        faulty("club a 100 2 grade 3;", 3, 7);
        faulty("club a 99 99 grade 9;", 0, -1);
        faulty("club a 1 100 grade 3;", 3, 9);
        faulty("club a 1 2 grade 10;", 3, 17);
        faulty("club a 1 2 grade 3 in 0 0;", 3, 22);
        faulty(TWO + "club a 1 2 grade 3 in 1 0;", 3, 27 + 22);
        faulty(TWO + "club a 1 2 grade 3 in 0 1;", 3, 27 + 24);
        String full = TWO + "club a 1 2 grade 3 in 0 0;club b 1 2 grade 3 in 0 0;";
        faulty(full, 0, -1);
        faulty(full + "club c 1 2 grade 3 in 0 0;", 3, 27 + 26 + 26 + 24);
        // A level told behind the club does not help it.
        faulty("club a 1 2 grade 3 in 0 0;" + TWO, 3, 22);
    }

    private static void tooMany() {
        StringBuilder levels = new StringBuilder();
        StringBuilder clubs = new StringBuilder();
        for (int i = 0; i < 4; i++) {
            levels.append("level1of2down0need0;");
            clubs.append("club ").append((char) ('a' + i)).append("1 1grade1in").append(i).append(" 0;");
            clubs.append("club z").append((char) ('a' + i)).append("1 1grade1in").append(i).append(" 0;");
        }
        faulty(levels + clubs.toString(), 0, -1);
        faulty(levels + clubs.toString() + " level1of2down0need0;", 4, levels.length() + clubs.length() + 1);
        StringBuilder thirty = new StringBuilder();
        for (int i = 0; i < 30; i++) {
            thirty.append("club ").append((char) ('a' + i / 26)).append((char) ('a' + i % 26)).append("1 1grade1;");
        }
        LeagueLevels x = Check.with(thirty.toString());
        Check.due("thirty clubs", x.look(1), 30);
        Check.due("the last one", x.club(29, 0), 1);
        Check.due("no further one", x.club(30, 0), -3);
        faulty(thirty + "club aa", 4, thirty.length());
        faulty(thirty + "level1of2", 1, thirty.length() + 9);
    }

    private static void notFull() {
        faulty(TWO, 5, 27);
        faulty(TWO + "  ", 5, 29);
        faulty(TWO + "club a 1 2 grade 3 in 0 0;", 5, 27 + 26);
        faulty("level 2 of 2 down 0 need 0;club a 1 2 grade 3 in 0 0;club b 1 2 grade 3 in 0 0;"
                + "club c 1 2 grade 3 in 0 1;", 5, 27 + 3 * 26);
        // Of one place the least number: the line has no end, the division is not full.
        faulty(TWO + "club a 1 2 grade 3 in 0 0", 1, 27 + 25);
    }

    /** What stood behind the tape's end, or was told formerly, has no part in it. */
    private static void cutOff() {
        LeagueLevels x = new LeagueLevels();
        Check.tell(x, "level 12");
        x.end(7);
        Check.due("a number cut off", x.pyramid(), -1);
        Check.due("its text ends", x.fault(0), 1);
        Check.due("at its end", x.fault(1), 7);
        Check.tell(x, "clubs");
        x.end(4);
        Check.due("a word cut off", x.pyramid(), -1);
        Check.due("its text ends", x.fault(0), 1);
        Check.due("at its end", x.fault(1), 4);
        Check.tell(x, " x");
        x.end(1);
        Check.due("a blank is left", x.pyramid(), 0);
    }

    private static void fewerThanBefore() {
        LeagueLevels x = Check.with("level1of2down0need0;level2of3down0need0;club a0 0grade9in1 0;"
                + "club b0 0grade9in1 0;club c0 0grade9in1 0;club d0 0grade9in1 1;club e0 0grade9in1 1;"
                + "club f0 0grade9in1 1;club g0 0grade9in0 0;club h0 0grade9in0 0;club i0 0grade9;club j0 0grade9;");
        Check.tell(x, "level1of2down1need0;level1of2down0need0;club p0 0grade9in1 0;club q0 0grade9in0 0;"
                + "club r0 0grade9in0 0;club s0 0grade9in1 0;");
        Check.due("four clubs", x.pyramid(), 4);
        Check.due("none waits", x.look(2), 0);
        Check.due("two may go up", x.level(1, 5), 2);
        Check.due("order", x.order(1, 1), 3);
        Check.due("no more", x.order(1, 2), -1);
        Check.due("miles", x.level(1, 6), 0);
        Check.due("none comes", x.moves(1, 3, -1), 0);
        x.resign(0);
        Check.due("too few wait", x.close(), -1);
        x.undo();
        Check.due("one up, one down", x.close(), 1);
        Check.due("none of a former club's name", x.show(0, 0), 12);
        Check.tell(x, "a");
        Check.due("nor number", x.named(), -1);
    }

    private static void firstOfSeveral() {
        faulty("club a 100 100 grade 10;", 3, 7);
        faulty("club a 1 100 grade x;", 3, 9);
        faulty("club a 1 x grade 10;", 1, 9);
        faulty("club a 1 2 grade 3;club a 100 2 grade 3;", 2, 24);
    }

    private static void whatStays() {
        LeagueLevels x = Check.with(TWO + "club a 0 0 grade 0 in 0 0;club b 0 0 grade 0 in 0 0;club c 0 0 grade 0;");
        Check.play(x, "a 1-0 b;");
        x.deduct(0, 2);
        Check.due("it ends", x.close(), 0);
        Check.play(x, "b 1-0 a;");
        x.refuse(1);
        Check.due("a table is shown", x.show(0, 0), 12);
        Check.tell(x, "level 1 of 2 down 5 need 5; club z 1 1 grade 1;");
        Check.due("not full", x.pyramid(), -1);
        Check.due("its fault", x.fault(0), 5);
        Check.due("down stays", x.level(0, 2), 1);
        Check.due("clubs stay", x.look(1), 3);
        Check.due("the season stays", x.look(4), 1);
        Check.due("matches stay", x.look(5), 1);
        Check.due("what can be undone stays", x.look(6), 2);
        Check.tell(x, "club z 1 1 grade 1;");
        Check.due("a new pyramid", x.pyramid(), 1);
        Check.due("in place of the levels", x.look(0), 0);
        Check.due("the clubs", x.look(1), 1);
        Check.due("the season", x.look(4), 0);
        Check.due("the matches", x.look(5), 0);
        Check.due("nothing can be undone", x.look(6), 0);
        Check.due("nothing is undone", x.undo(), false);
        Check.due("what was shown is shown still", x.out(0), 'b');
        Check.tell(x, TWO + "club p 0 0 grade 0 in 0 0;club q 0 0 grade 0 in 0 0;");
        Check.due("two more", x.pyramid(), 2);
        Check.due("no match of former clubs", x.match(1, 0, 0), -1);
        Check.due("nor points", x.points(1), 0);
        Check.due("nor who refused", x.club(1, 6), 0);
        Check.due("an empty pyramid", x.pyramid(), 0);
        Check.due("has no level", x.look(0), 0);
        Check.due("and no club", x.look(1), 0);
    }
}
