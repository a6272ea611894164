/** Promises 5 (day) and 6 (fault): the text of a day, its faults and their places. */
public final class DayTextTest {
    private static final String PYRAMID = "level 2 of 2 down 0 need 0;level 1 of 3 down 0 need 0;"
            + "club a 0 0 grade 0 in 0 0;club b 0 0 grade 0 in 0 0;club c 0 0 grade 0 in 0 1;"
            + "club d 0 0 grade 0 in 0 1;club e 0 0 grade 0 in 1 0;club f 0 0 grade 0 in 1 0;"
            + "club gggggg 0 0 grade 0 in 1 0;club w 0 0 grade 0;";

    public static void main(String[] args) {
        sound();
        notThere();
        noMatch();
        noneCounts();
        Check.finish();
    }

    private static void sound() {
        LeagueLevels x = Check.with(PYRAMID);
        Check.due("an empty day", x.day(), 0);
        Check.due("nothing to undo", x.look(6), 0);
        Check.tell(x, " a 1 - 0 b ;\ne12-099f;gggggg0-0e;");
        Check.due("three matches", x.day(), 3);
        Check.due("no fault", x.fault(0), 0);
        Check.due("no place", x.fault(1), -1);
        Check.due("the tape is empty", x.look(7), 0);
        Check.due("matches", x.look(5), 3);
        Check.due("one deed", x.look(6), 1);
        Check.due("e at home", x.match(4, 5, 0), 12);
        Check.due("f away", x.match(4, 5, 1), 99);
        Check.due("no goals are goals", x.match(6, 4, 0), 0);
        Check.due("the other home", x.match(5, 4, 0), -1);
        Check.due("nor another what", x.match(4, 5, 2), -1);
        Check.due("nor below", x.match(4, 5, -1), -1);
        Check.due("nor no club", x.match(4, 8, 0), -1);
        Check.due("nor no club", x.match(-1, 4, 0), -1);
        Check.due("nor far ones", x.match(Integer.MAX_VALUE, Integer.MIN_VALUE, 0), -1);
        Check.tell(x, "b 0-0 a;");
        Check.due("the other home is another match", x.day(), 1);
    }

    private static void faulty(String text, int fault, int place) {
        LeagueLevels x = Check.with(PYRAMID);
        Check.play(x, "a 1-0 b;");
        Check.tell(x, text);
        Check.due("it can't be: " + text, x.day(), -1);
        Check.due("fault of: " + text, x.fault(0), fault);
        Check.due("place in: " + text, x.fault(1), place);
        Check.due("the tape is empty behind: " + text, x.look(7), 0);
        Check.due("no match more behind: " + text, x.look(5), 1);
        Check.due("no deed more behind: " + text, x.look(6), 1);
    }

    private static void notThere() {
        faulty("1-0 c;", 1, 0);
        faulty("c", 1, 1);
        faulty("c 1 d;", 1, 4);
        faulty("c 1", 1, 3);
        faulty("c 1- d;", 1, 5);
        faulty("c 1--1 d;", 1, 4);
        faulty("c 1-1", 1, 5);
        faulty("c 1-1 ;", 1, 6);
        faulty("c 1-1 d", 1, 7);
        faulty("c 1-1 d 1", 1, 8);
        faulty("c 1-1 d;;", 1, 8);
        faulty("c 1000-1 d;", 1, 2);
        faulty("c 1-0001 d;", 1, 4);
        faulty("level 1-1 d;", 1, 0);
        faulty("c 1-1 in;", 1, 6);
        faulty("abcdefgh 1-1 c;", 1, 0);
        faulty("c 1-1 abcdefgh;", 1, 6);
        faulty("C 1-1 d;", 1, 0);
        faulty("c 1-1\td;", 1, 5);
        faulty("c 1:1 d;", 1, 3);
    }

    private static void noMatch() {
        faulty("x 1-1 d;", 2, 0);
        faulty("c 1-1 x;", 2, 6);
        faulty("c 100-1 d;", 3, 2);
        faulty("c 1-100 d;", 3, 4);
        faulty("c 1-999 c;", 3, 4);
        faulty("c 1-1 c;", 4, 6);
        faulty("c 1-1 a;", 4, 6);
        faulty("c 1-1 e;", 4, 6);
        faulty("a 2-2 b;", 4, 6);
        faulty("w 1-1 c;", 4, 6);
        faulty("c 1-1 w;", 4, 6);
        faulty("w 1-1 w;", 4, 6);
        faulty("w 1-1 x;", 2, 6);
        faulty("c 1-1 d;d 1-1 c;c 1-1 d;", 4, 22);
        faulty("c 1-1 c", 4, 6);
        LeagueLevels x = Check.with("level 1 of 2 down 0 need 0;club a 0 0 grade 0 in 0 0;"
                + "club b 0 0 grade 0 in 0 0;club c 0 0 grade 0;");
        x.resign(0);
        Check.tell(x, "a 1-0 b;");
        Check.due("who resigned still plays", x.day(), 1);
        x.close();
        Check.tell(x, "b 1-0 c;a 1-0 b;");
        Check.due("who is gone does not", x.day(), -1);
        Check.due("a name it still has", x.fault(0), 4);
        Check.due("at the second name", x.fault(1), 14);
        Check.tell(x, "b 3-0 c;");
        Check.due("in the next season it is told anew", x.day(), 1);
    }

    private static void noneCounts() {
        LeagueLevels x = Check.with(PYRAMID);
        Check.tell(x, "a 1-0 b;c 2-2 d;e 1-0 z;");
        Check.due("a fault", x.day(), -1);
        Check.due("none of them counts", x.look(5), 0);
        Check.due("no goals", x.match(0, 1, 0), -1);
        Check.due("no points", x.points(0), 0);
        Check.due("nor of like ones", x.points(2), 0);
        Check.due("nor played", x.of(3, 0), 0);
        Check.tell(x, "a 1-0 b;");
        Check.due("so it can be told", x.day(), 1);
        Check.due("the fault is none then", x.fault(0), 0);
        Check.due("points", x.points(0), 3);
    }
}
