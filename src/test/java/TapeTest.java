/** Promises 1 (a new object), 2 (feed), 3 (end), 7 (named). */
public final class TapeTest {
    public static void main(String[] args) {
        newObject();
        feed();
        end();
        named();
        Check.finish();
    }

    private static void newObject() {
        LeagueLevels x = new LeagueLevels();
        for (int what = 0; what <= 7; what++) {
            Check.due("look(" + what + ") of a new object", x.look(what), 0);
        }
        Check.due("no fault", x.fault(0), 0);
        Check.due("no fault's place", x.fault(1), -1);
        Check.due("nothing is shown", x.out(0), -1);
        Check.due("nothing to undo", x.undo(), false);
        Check.due("no end without a level", x.close(), -1);
        Check.due("no club", x.club(0, 3), -3);
        Check.due("no level", x.level(0, 0), -1);
    }

    private static void feed() {
        LeagueLevels x = new LeagueLevels();
        for (int i = 1; i <= 35; i++) {
            Check.due("feed " + i, x.feed(-1, 0, 1, 2, Integer.MIN_VALUE), 20 * i);
        }
        Check.due("the 36th feed", x.feed(0, 0, 0, 0, 0), -1);
        Check.due("it has 700", x.look(7), 700);
        Check.due("700 can be", x.end(681), true);
        Check.due("701 can't be", x.feed(0, 0, 0, 0, 0), -1);
        Check.due("none came", x.look(7), 681);
        Check.due("680 and 20", x.end(680), true);
        Check.due("700 again", x.feed(0, 0, 0, 0, 0), 700);
        // "club ab1 2grade3;   ": the highest byte of each number comes first.
        LeagueLevels y = new LeagueLevels();
        Check.due("five numbers", y.feed(0x636c7562, 0x20616231, 0x20326772, 0x61646533, 0x3b202020), 20);
        Check.due("are read in their order", y.pyramid(), 1);
        Check.due("x", y.club(0, 0), 1);
        Check.due("y", y.club(0, 1), 2);
        Check.due("grade", y.club(0, 2), 3);
        // A byte above 127 is a byte, not a sign below 0.
        y.feed(0x20ff2020, 0x20202020, 0x20202020, 0x20202020, 0x20202020);
        Check.due("a strange byte", y.pyramid(), -1);
        Check.due("its fault", y.fault(0), 1);
        Check.due("its place", y.fault(1), 1);
    }

    private static void end() {
        LeagueLevels x = new LeagueLevels();
        Check.due("end(0) of an empty tape", x.end(0), true);
        Check.due("end(1) of an empty tape", x.end(1), false);
        Check.due("end(-1)", x.end(-1), false);
        Check.tell(x, "club a 1 2 grade 3;club b 1 2 grade 3;");
        Check.due("more than it has", x.end(39), false);
        Check.due("as many as it has", x.end(38), true);
        Check.due("far below 0", x.end(Integer.MIN_VALUE), false);
        Check.due("far above", x.end(Integer.MAX_VALUE), false);
        Check.due("nothing changed", x.look(7), 38);
        Check.due("the first 19", x.end(19), true);
        Check.due("19 are left", x.look(7), 19);
        Check.due("one club", x.pyramid(), 1);
        Check.due("the tape is empty", x.look(7), 0);
    }

    private static long named(LeagueLevels x, String text) {
        Check.tell(x, text);
        return x.named();
    }

    private static void named() {
        LeagueLevels x = Check.with("level 1 of 2 down 0 need 0;club ab 0 0 grade 0 in 0 0;club b 0 0 grade 0;"
                + "club abcdefg 0 0 grade 0 in 0 0;");
        Check.due("ab", named(x, "ab"), 0);
        Check.due("the tape is empty behind it", x.look(7), 0);
        Check.due("blanks aside", named(x, " \n b\n  "), 1);
        Check.due("seven letters", named(x, "abcdefg"), 2);
        Check.due("eight letters", named(x, "abcdefgh"), -1);
        Check.due("the last seven of eight", named(x, "xabcdefg"), -1);
        Check.due("no club's name", named(x, "a"), -1);
        Check.due("nor that of two words", named(x, "ab b"), -1);
        Check.due("nor with a sign behind", named(x, "ab;"), -1);
        Check.due("nor with a digit behind", named(x, "ab1"), -1);
        Check.due("nor with a digit ahead", named(x, "1ab"), -1);
        Check.due("nor with blanks inside", named(x, "a b"), -1);
        Check.due("an empty tape", x.named(), -1);
        Check.due("blanks alone", named(x, "   "), -1);
        Check.due("a word that is no name", named(x, "level"), -1);
        Check.due("the tape is empty behind that too", x.look(7), 0);
        Check.tell(x, "?");
        x.day();
        Check.due("named leaves the fault", named(x, "ab"), 0);
        Check.due("as it was", x.fault(0), 1);
        Check.due("and its place", x.fault(1), 0);
        x.resign(0);
        Check.due("ab goes", x.close(), 0);
        Check.due("a club that is gone is still named", named(x, "ab"), 0);
        Check.due("it is gone", x.club(0, 3), -2);
    }
}
