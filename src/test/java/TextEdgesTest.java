/**
 * The bounds named under Terms (levels, divisions, sizes, clubs, words, numbers, blanks, faults and their places) and
 * those of promises 1 to 7: one method for each sentence that names a boundary.
 */
public final class TextEdgesTest {
    private static final String TWO = "level 1 of 2 down 1 need 3;";
    private static final String PAIR = TWO + "club a 1 2 grade 3 in 0 0;club b 1 2 grade 3 in 0 0;";

    public static void main(String[] args) {
        levelsNoneToFour();
        divisionsOneToThree();
        sizeTwoToSix();
        twelveInAll();
        downNoneToSix();
        needNoneToNine();
        clubsNoneToThirty();
        placesNoneTo99();
        gradeNoneToNine();
        namesOneToSeven();
        lettersAndDigits();
        numbersOneToThreeDigits();
        blanks();
        placeOfTheEnd();
        leastNumberOfOnePlace();
        firstByPlace();
        levelToldAhead();
        divisionOfIt();
        divisionFull();
        divisionNotFull();
        goalsNoneTo99();
        dayNames();
        dayNotInOneDivision();
        dayToldAlready();
        newObject();
        feedTo700();
        feedRefused();
        endBounds();
        pyramidEmpty();
        pyramidFaultKeepsAll();
        pyramidBeginsAnew();
        dayEmpty();
        dayFaultKeepsAll();
        faultOtherWhat();
        faultOfTheLatest();
        namedAlone();
        Check.finish();
    }

    /** Terms: LEVELS 0 .. 3; FAULT 4 the 5th LEVEL at level. */
    private static void levelsNoneToFour() {
        int[] l = Edge.four(1, 2, 0, 0);
        Check.due("no level", Edge.sound("", 0).look(0), 0);
        Check.due("one level", Edge.sound(Edge.filled(0, l), 2).look(0), 1);
        LeagueLevels x = Edge.sound(Edge.filled(0, l, l, l, l), 8);
        Check.due("four levels", x.look(0), 4);
        Check.due("the foot is level 3", x.level(3, 1), 2);
        Check.due("there is no level 4", x.level(4, 1), -1);
        Check.due("clubs stand in it", x.club(7, 3), 3);
        Edge.pyramidFault(Edge.filled(0, l, l, l, l) + "^level1of2down0need0;", 4);
        // Whatever stands behind it, full or not: the fault is at level.
        Edge.pyramidFault("level1of2down0need0;level1of2down0need0;level1of2down0need0;level1of2down0need0; ^level", 4);
        Edge.pyramidFault("level1of2down0need0;level1of2down0need0;level1of2down0need0;level1of2down0need0;\n^levelx", 1);
    }

    /** Terms: DIVISIONS 1 .. 3. */
    private static void divisionsOneToThree() {
        for (int n = 1; n <= 3; n++) {
            Check.due("divisions", Edge.sound(Edge.filled(0, Edge.four(n, 2, 0, 0)), 2 * n).level(0, 0), n);
        }
        Edge.pyramidFault("level ^0 of 2 down 0 need 0;", 3);
        Edge.pyramidFault("level ^4 of 2 down 0 need 0;", 3);
        Edge.pyramidFault("level ^999 of 2 down 0 need 0;", 3);
        Edge.pyramidFault("level ^-1 of 2 down 0 need 0;", 1);
    }

    /** Terms: their SIZE 2 .. 6. */
    private static void sizeTwoToSix() {
        for (int n = 2; n <= 6; n++) {
            Check.due("size", Edge.sound(Edge.filled(0, Edge.four(1, n, 0, 0)), n).level(0, 1), n);
        }
        Edge.pyramidFault("level 1 of ^0 down 0 need 0;", 3);
        Edge.pyramidFault("level 1 of ^1 down 0 need 0;", 3);
        Edge.pyramidFault("level 1 of ^7 down 0 need 0;", 3);
        Edge.pyramidFault("level 1 of ^12 down 0 need 0;", 3);
        Edge.pyramidFault("level 2 of ^1 down 0 need 0;", 3);
    }

    /** Terms: 12 CLUBS in all at most; FAULT 3 at the SIZE by which there are more than 12. */
    private static void twelveInAll() {
        Edge.sound(Edge.filled(0, Edge.four(2, 6, 0, 0)), 12);
        Edge.sound(Edge.filled(0, Edge.four(3, 4, 0, 0)), 12);
        Edge.sound(Edge.filled(0, Edge.four(2, 5, 0, 0)), 10);
        Edge.sound(Edge.filled(0, Edge.four(3, 3, 0, 0)), 9);
        Edge.pyramidFault("level 3 of ^5 down 0 need 0;", 3);
        Edge.pyramidFault("level 3 of ^6 down 0 need 0;", 3);
        Edge.pyramidFault("level 2 of ^7 down 0 need 0;", 3);
        // Of each level alone: two levels of twelve can be.
        Edge.sound(Edge.filled(0, Edge.four(2, 6, 0, 0), Edge.four(3, 4, 0, 0)), 24);
    }

    /** Terms: DOWN 0 .. 6. */
    private static void downNoneToSix() {
        for (int n = 0; n <= 6; n++) {
            Check.due("down", Edge.sound(Edge.filled(0, Edge.four(1, 2, n, 0)), 2).level(0, 2), n);
        }
        Edge.pyramidFault("level 1 of 2 down ^7 need 0;", 3);
        Edge.pyramidFault("level 1 of 2 down ^999 need 0;", 3);
        Edge.pyramidFault("level 1 of 2 down ^-1 need 0;", 1);
    }

    /** Terms: NEED 0 .. 9. */
    private static void needNoneToNine() {
        for (int n = 0; n <= 9; n++) {
            Check.due("need", Edge.sound(Edge.filled(0, Edge.four(1, 2, 0, n)), 2).level(0, 3), n);
        }
        Edge.pyramidFault("level 1 of 2 down 0 need ^10;", 3);
        Edge.pyramidFault("level 1 of 2 down 0 need ^999;", 3);
        Edge.pyramidFault("level 1 of 2 down 0 need ^-1;", 1);
    }

    /** Terms: CLUBS 0 .. 29; FAULT 4 the 31st CLUB at club. */
    private static void clubsNoneToThirty() {
        Check.due("no club", Edge.sound(" ", 0).look(1), 0);
        Check.due("one club", Edge.sound(Edge.filled(1), 1).look(1), 1);
        LeagueLevels x = Edge.sound(Edge.filled(30), 30);
        Check.due("thirty that wait", x.look(2), 30);
        Check.due("number 29", x.club(29, 3), -1);
        Check.due("no number 30", x.club(30, 3), -3);
        Edge.pyramidFault(Edge.filled(30) + "^club last 0 0 grade 0;", 4);
        Edge.pyramidFault(Edge.filled(30) + "^club", 4);
        Edge.pyramidFault(Edge.filled(30) + "^club a", 4);
        String most = Edge.filled(0, Edge.four(2, 6, 0, 0), Edge.four(2, 6, 0, 0), Edge.four(1, 6, 0, 0));
        Check.due("thirty of divisions", Edge.sound(most, 30).club(29, 3), 2);
        Edge.pyramidFault(most + "^club", 4);
    }

    /** Terms: a place, x and y, 0 .. 99 miles. */
    private static void placesNoneTo99() {
        LeagueLevels x = Edge.sound("club a 0 99 grade 0;club b 99 0 grade 0;club c 000 099 grade 0;", 3);
        int[] xs = {0, 99, 0};
        for (int c = 0; c < 3; c++) {
            Check.due("x of " + c, x.club(c, 0), xs[c]);
            Check.due("y of " + c, x.club(c, 1), 99 - xs[c]);
        }
        Edge.pyramidFault("club a ^100 0 grade 0;", 3);
        Edge.pyramidFault("club a 0 ^100 grade 0;", 3);
        Edge.pyramidFault("club a ^999 0 grade 0;", 3);
        Edge.pyramidFault("club a 0 ^999 grade 0;", 3);
        Edge.pyramidFault("club a ^-1 0 grade 0;", 1);
    }

    /** Terms: a GRADE 0 .. 9. */
    private static void gradeNoneToNine() {
        for (int n = 0; n <= 9; n++) {
            Check.due("grade", Edge.sound("club a 0 0 grade " + n + ";", 1).club(0, 2), n);
        }
        Edge.pyramidFault("club a 0 0 grade ^10;", 3);
        Edge.pyramidFault("club a 0 0 grade ^99;", 3);
        Edge.pyramidFault("club a 0 0 grade ^-1;", 1);
    }

    /** Terms: NAMES are WORDS of 1 to 7 but seven of them; a WORD that is too long is FAULT 1 at its begin. */
    private static void namesOneToSeven() {
        Edge.sound("club a 0 0 grade 0;club aa 0 0 grade 0;club aaaaaa 0 0 grade 0;club aaaaaaa 0 0 grade 0;", 4);
        Edge.pyramidFault("club ^aaaaaaaa 0 0 grade 0;", 1);
        Edge.pyramidFault("club ^" + "a".repeat(600) + " 0 0 grade 0;", 1);
        Edge.pyramidFault("club ^0 0 grade 0;", 1);
        for (String word : new String[] {"level", "of", "down", "need", "club", "grade", "in"}) {
            Edge.pyramidFault("club ^" + word + " 0 0 grade 0;", 1);
            Edge.sound("club " + word + "s 0 0 grade 0;", 1);
            Edge.sound("club " + word.substring(1) + " 0 0 grade 0;", 1);
        }
        // Where another word is due, one that begins or ends like it is none.
        Edge.pyramidFault("^levels 1 of 2 down 0 need 0;", 1);
        Edge.pyramidFault("^aaalevel 1 of 2 down 0 need 0;", 1);
        Edge.pyramidFault("^aaaaaaaalevel 1 of 2 down 0 need 0;", 1);
        Edge.pyramidFault("level 1 ^o 2 down 0 need 0;", 1);
    }

    /** Terms: letters a .. z and digits; the signs at their sides are none. */
    private static void lettersAndDigits() {
        LeagueLevels x = Edge.sound("club az 0 9 grade 0;club za 9 0 grade 9;", 2);
        Check.due("9", x.club(1, 0), 9);
        for (char c : new char[] {'`', '{', '@', '[', 'A', 'Z', '/', ':', '_', 0, 127, 128, 225, 255}) {
            Edge.pyramidFault("club ^" + c + " 0 0 grade 0;", 1);
            Edge.pyramidFault("club a^" + c + " 0 0 grade 0;", 1);
            Edge.pyramidFault("club a 0^" + c + " 0 grade 0;", 1);
            Edge.pyramidFault("^" + c, 1);
        }
        // A byte that is a letter but for its highest bit is no letter.
        Edge.pyramidFault("club ^" + (char) ('a' + 128) + " 0 0 grade 0;", 1);
        Edge.pyramidFault("club a ^" + (char) ('0' + 128) + " 0 grade 0;", 1);
    }

    /** Terms: N is 1 to 3 digits that stand together; one that is too long is FAULT 1 at its begin. */
    private static void numbersOneToThreeDigits() {
        Edge.sound("level 001 of 002 down 000 need 009;club a 00 0 grade 009 in 000 000;club b 7 07 grade 7 in 0 0;", 2);
        Edge.pyramidFault("level ^0001 of 2 down 0 need 0;", 1);
        Edge.pyramidFault("level 1 of ^0002 down 0 need 0;", 1);
        Edge.pyramidFault("level 1 of 2 down ^0000 need 0;", 1);
        Edge.pyramidFault("level 1 of 2 down 0 need ^0000;", 1);
        Edge.pyramidFault("club a ^0000 0 grade 0;", 1);
        Edge.pyramidFault("club a 0 ^0000 grade 0;", 1);
        Edge.pyramidFault("club a 0 0 grade ^0000;", 1);
        Edge.pyramidFault(TWO + "club a 0 0 grade 0 in ^0000 0;", 1);
        Edge.pyramidFault(TWO + "club a 0 0 grade 0 in 0 ^0000;", 1);
        // 2 to the power of 32 and 1: as an int it would be 1.
        Edge.pyramidFault("level ^4294967297 of 2 down 0 need 0;", 1);
        Edge.pyramidFault("level ^18446744073709551617 of 2 down 0 need 0;", 1);
        Edge.pyramidFault("level ^" + "0".repeat(690), 1);
        // Digits that stand apart are two numbers.
        Edge.pyramidFault("level 1 ^0 of 2 down 0 need 0;", 1);
    }

    /** Terms: blanks (32, 10) between where one likes, or none. */
    private static void blanks() {
        Edge.sound("level1of2down0need0;club a0 0grade0in0 0;club b0 0grade0in0 0;", 2);
        Edge.sound("\n level \n 1\nof\n2 down\n0 need\n0\n;\n\nclub\na\n0\n0\ngrade\n0\nin\n0\n0\n;"
                + "  club  b  0  0  grade  0  in  0  0  ;  ", 2);
        for (char c : new char[] {0, 9, 11, 12, 13, 31, 33, 160, 138}) {
            Edge.pyramidFault("^" + c + "club a 0 0 grade 0;", 1);
            Edge.pyramidFault("club^" + c + "a 0 0 grade 0;", 1);
            Edge.pyramidFault("club a 0 0 grade 0;^" + c, 1);
        }
        // A blank inside a word or a number parts it.
        Edge.pyramidFault("^lev el 1 of 2 down 0 need 0;", 1);
        Edge.pyramidFault("club a 1 0 ^0 grade 0;", 1);
    }

    /** Terms: places from 0; the end: its length (blanks behind belong to it). */
    private static void placeOfTheEnd() {
        Edge.pyramidFault("^x", 1);
        Edge.pyramidFault("level^", 1);
        Edge.pyramidFault("level   ^", 1);
        Edge.pyramidFault("level 1 of 2 down 0 need 0^", 1);
        Edge.pyramidFault("level 1 of 2 down 0 need 0\n^", 1);
        Edge.pyramidFault("club a 0 0 grade 0^", 1);
        Edge.pyramidFault(TWO + "^", 5);
        Edge.pyramidFault(TWO + " \n ^", 5);
        // The tape is full: the end is at 700.
        Edge.pyramidFault("level 1 of 2 down 0 need 0" + " ".repeat(674) + "^", 1);
        Edge.pyramidFault(TWO + " ".repeat(673) + "^", 5);
        Edge.pyramidFault(" ".repeat(699) + "^;", 1);
        Edge.sound(PAIR + " ".repeat(700 - PAIR.length()), 2);
    }

    /** Terms: FAULTS of one place: the least number. */
    private static void leastNumberOfOnePlace() {
        // At the end: the line has no ";" (1), the division isn't full (5).
        Edge.pyramidFault(TWO + "club a 0 0 grade 0 in 0 0^", 1);
        Edge.pyramidFault("level 1 of 2 down 0 need 0^", 1);
        // A word that is too long begins like a name that a club ahead has.
        Edge.pyramidFault("club aaaaaaa 0 0 grade 0;club ^aaaaaaaa 0 0 grade 0;", 1);
        // A number that is too long can't be, too.
        Edge.pyramidFault("level ^9999 of 2 down 0 need 0;", 1);
    }

    /** Terms: FAULTS, the first by its place. */
    private static void firstByPlace() {
        Edge.pyramidFault("level ^4 of 7 down 7 need 10;", 3);
        Edge.pyramidFault("level 1 of ^7 down 7 need 10;", 3);
        Edge.pyramidFault("level 1 of 2 down ^7 need 10;", 3);
        Edge.pyramidFault("level 1 of 2 down 0 need ^10 x", 3);
        Edge.pyramidFault("level ^x of 7 down 7 need 10;", 1);
        Edge.pyramidFault("club a 0 0 grade 0;club ^a 100 100 grade 10;", 2);
        Edge.pyramidFault("club a ^100 x", 3);
        Edge.pyramidFault("club a 0 0 grade 0 in ^0 9;", 3);
        Edge.pyramidFault(TWO + "^x", 1);
    }

    /** Terms: FAULT 3 at a LEVEL: none told ahead. */
    private static void levelToldAhead() {
        Edge.pyramidFault("club a 0 0 grade 0 in ^0 0;" + TWO, 3);
        Edge.pyramidFault(TWO + "club a 0 0 grade 0 in ^1 0;" + TWO, 3);
        Edge.pyramidFault(TWO + "club a 0 0 grade 0 in ^4 0;", 3);
        Edge.pyramidFault(TWO + "club a 0 0 grade 0 in ^999 0;", 3);
        Edge.pyramidFault(TWO + "club a 0 0 grade 0 in ^-1 0;", 1);
        // A level may come behind clubs of those ahead, and behind those that wait.
        Edge.sound("club w 0 0 grade 0;" + PAIR + TWO + "club c 0 0 grade 0 in 1 0;club d 0 0 grade 0 in 1 0;", 5);
    }

    /** Terms: FAULT 3 at a DIVISION: none of it. */
    private static void divisionOfIt() {
        Edge.pyramidFault(TWO + "club a 0 0 grade 0 in 0 ^1;", 3);
        Edge.pyramidFault("level 3 of 2 down 0 need 0;club a 0 0 grade 0 in 0 ^3;", 3);
        Edge.pyramidFault("level 3 of 2 down 0 need 0;" + TWO + "club a 0 0 grade 0 in 1 ^1;", 3);
        Edge.pyramidFault(TWO + "club a 0 0 grade 0 in 0 ^999;", 3);
        LeagueLevels x = Edge.sound(Edge.filled(0, Edge.four(3, 2, 0, 0)), 6);
        Check.due("division 2", x.club(5, 4), 2);
    }

    /** Terms: FAULT 3 at a DIVISION: it is full. */
    private static void divisionFull() {
        Edge.sound(PAIR, 2);
        Edge.pyramidFault(PAIR + "club c 0 0 grade 0 in 0 ^0;", 3);
        Edge.pyramidFault(PAIR + "club c 0 0 grade 0 in 0 ^0", 3);
        String six = Edge.filled(0, Edge.four(2, 6, 0, 0));
        Edge.pyramidFault(six + "club last 0 0 grade 0 in 0 ^1;", 3);
        // The other division of the level is not full, nor that of another level.
        Edge.pyramidFault("level 2 of 2 down 0 need 0;club a 0 0 grade 0 in 0 1;club b 0 0 grade 0 in 0 1;"
                + "club c 0 0 grade 0 in 0 ^1;", 3);
        Edge.pyramidFault(TWO + PAIR + "club c 0 0 grade 0 in 0 ^0;", 3);
    }

    /** Terms: FAULT 5 a DIVISION isn't full (at the end). */
    private static void divisionNotFull() {
        Edge.pyramidFault(TWO + "^", 5);
        Edge.pyramidFault(TWO + "club a 0 0 grade 0 in 0 0;^", 5);
        Edge.pyramidFault(PAIR + TWO + "club c 0 0 grade 0 in 1 0;^", 5);
        Edge.pyramidFault(TWO + TWO + "club c 0 0 grade 0 in 1 0;club d 0 0 grade 0 in 1 0;^", 5);
        Edge.pyramidFault("level 2 of 2 down 0 need 0;club a 0 0 grade 0 in 0 0;club b 0 0 grade 0 in 0 0;^", 5);
        Edge.pyramidFault("level 2 of 2 down 0 need 0;club a 0 0 grade 0 in 0 1;club b 0 0 grade 0 in 0 1;"
                + "club c 0 0 grade 0 in 0 0;^", 5);
        // Who waits fills no division.
        Edge.pyramidFault(TWO + "club a 0 0 grade 0 in 0 0;club b 0 0 grade 0;^", 5);
    }

    private static void dayFault(String marked, int fault) {
        LeagueLevels x = Edge.story();
        Check.tell(x, Edge.plain(marked));
        Check.due("no day: " + marked, x.day(), -1);
        Check.due("fault of: " + marked, x.fault(0), fault);
        Check.due("place in: " + marked, x.fault(1), marked.indexOf('^'));
        Check.due("empty tape: " + marked, x.look(7), 0);
        Check.due("none counts: " + marked, x.look(5), 2);
        Check.due("nothing more to undo: " + marked, x.look(6), 4);
    }

    private static void daySound(String text, int matches) {
        LeagueLevels x = Edge.story();
        Check.tell(x, text);
        Check.due("a day: " + text, x.day(), matches);
        Check.due("no fault: " + text, x.fault(0), 0);
        Check.due("no place: " + text, x.fault(1), -1);
        Check.due("empty tape: " + text, x.look(7), 0);
        Check.due("they count: " + text, x.look(5), 2 + matches);
    }

    /** Terms, a DAY: FAULT 3 goals above 99. */
    private static void goalsNoneTo99() {
        daySound("c 0-0 a;", 1);
        daySound("c 99-99 a;", 1);
        daySound("c 099-009 a;", 1);
        dayFault("c ^100-0 a;", 3);
        dayFault("c 0-^100 a;", 3);
        dayFault("c ^999-0 a;", 3);
        dayFault("c 0-^999 x;", 3);
        dayFault("c ^1000-0 a;", 1);
        dayFault("c 0-^0000 a;", 1);
        dayFault("c ^-1-0 a;", 1);
        dayFault("c 0-^-1 a;", 1);
        LeagueLevels x = Edge.story();
        Check.play(x, "c 99-0 a;");
        Check.due("99 at home", x.match(2, 0, 0), 99);
        Check.due("0 away", x.match(2, 0, 1), 0);
        Check.due("goals in all", x.of(2, 3), 100);
    }

    /** Terms, a DAY: FAULT 2 a NAME of no CLUB, 1 what is no NAME. */
    private static void dayNames() {
        dayFault("^x 1-0 a;", 2);
        dayFault("c 1-0 ^x;", 2);
        dayFault("^aa 1-0 c;", 2);
        dayFault("c 1-0 ^aaaaaaa;", 2);
        dayFault("c 1-0 ^aaaaaaaa;", 1);
        dayFault("^aaaaaaaa 1-0 c;", 1);
        dayFault("^level 1-0 a;", 1);
        dayFault("c 1-0 ^of;", 1);
        dayFault("c 1-0 a^", 1);
        dayFault("c 1-0 a\n^", 1);
        dayFault("c 1-0 a;^;", 1);
        dayFault("c 1-0 a;e^", 1);
        dayFault("c ^;", 1);
        dayFault("^;", 1);
        // Its place is ahead of one's whose match can't be.
        dayFault("^x 1-0 c;a 1-0 a;", 2);
    }

    /** Terms, a DAY: FAULT 4 at the second NAME: CLUBS that don't stand in one DIVISION (the same one, too). */
    private static void dayNotInOneDivision() {
        dayFault("a 1-0 ^a;", 4);
        dayFault("d 1-0 ^e;", 4);
        dayFault("a 1-0 ^d;", 4);
        dayFault("d 1-0 ^a;", 4);
        dayFault("v 1-0 ^a;", 4);
        dayFault("a 1-0 ^v;", 4);
        dayFault("v 1-0 ^v;", 4);
        dayFault("b 1-0 ^a;", 4);
        dayFault("a 1-0 ^b;", 4);
        dayFault("b 1-0 ^v;", 4);
        dayFault("c 1-0 a;e 1-0 ^d", 4);
        // Two that wait, two that are gone don't stand in one division.
        LeagueLevels x = Check.with(Edge.filled(4, Edge.four(1, 2, 0, 0)));
        Check.tell(x, "c 1-0 d;");
        Check.due("two that wait", x.day(), -1);
        Check.due("fault 4", x.fault(0), 4);
        x.resign(0);
        x.resign(1);
        Check.due("both go", x.close(), 0);
        Check.tell(x, "a 1-0 b;");
        Check.due("two that are gone", x.day(), -1);
        Check.due("fault 4", x.fault(0), 4);
        Check.due("at the second name", x.fault(1), 6);
    }

    /** Terms, a DAY: FAULT 4 a MATCH at that home that was told already (in this DAY, too). */
    private static void dayToldAlready() {
        dayFault("a 2-1 ^c;", 4);
        dayFault("a 0-0 ^c", 4);
        dayFault("e 1-0 f;e 1-0 ^f;", 4);
        dayFault("e 1-0 f;f 1-0 e;f 0-0 ^e;", 4);
        daySound("c 2-1 a;w 1-1 d;e 1-0 f;f 0-1 e;", 4);
        // Undone, or in another season, it was not told.
        LeagueLevels x = Edge.story();
        while (x.undo()) {
            Check.due("no match yet, or both", x.look(5) % 2, 0);
        }
        Check.tell(x, "a 2-1 c;");
        Check.due("told again", x.day(), 1);
        x.refuse(4);
        Check.due("nobody goes up", x.close(), 0);
        Check.due("the top is the same", x.club(0, 3) + x.club(2, 3), 0);
        Check.tell(x, "a 2-1 c;");
        Check.due("told in the next season", x.day(), 1);
    }

    /** Promise 1: nothing is told. */
    private static void newObject() {
        LeagueLevels x = new LeagueLevels();
        for (int what = 0; what < 8; what++) {
            Check.due("look", x.look(what), 0);
            Check.due("of", x.of(0, what), -1);
            Check.due("club", x.club(0, what), -3);
            Check.due("level", x.level(0, what), -1);
            Check.due("moves", x.moves(0, what, -1), -1);
        }
        Check.due("fault", x.fault(0), 0);
        Check.due("its place", x.fault(1), -1);
        Check.due("close", x.close(), -1);
        Check.due("season", x.look(4), 0);
        Check.due("undo", x.undo(), false);
        Check.due("named", x.named(), -1);
        Check.due("out", x.out(0), -1);
        Check.due("show", x.show(0, 0), -1);
    }

    /** Promise 2: NONE if there would be more than 700. */
    private static void feedTo700() {
        LeagueLevels x = new LeagueLevels();
        for (int n = 20; n <= 700; n += 20) {
            Check.due("how many it has", x.feed(-1, -1, -1, -1, -1), n);
        }
        Check.due("720 are too many", x.feed(0, 0, 0, 0, 0), -1);
        for (int n = 681; n <= 700; n++) {
            LeagueLevels y = new LeagueLevels();
            Check.tell(y, "x".repeat(680));
            y.feed(0, 0, 0, 0, 0);
            y.end(n);
            Check.due(n + " and 20", y.feed(0, 0, 0, 0, 0), -1);
            Check.due("none came", y.look(7), n);
        }
        x.end(680);
        Check.due("680 and 20", x.feed(0, 0, 0, 0, 0), 700);
        x.end(0);
        Check.due("0 and 20", x.feed(0, 0, 0, 0, 0), 20);
        x.end(1);
        Check.due("1 and 20", x.feed(0, 0, 0, 0, 0), 21);
    }

    /** Promise 2: and none come. */
    private static void feedRefused() {
        LeagueLevels x = new LeagueLevels();
        Check.tell(x, PAIR + " ".repeat(700 - PAIR.length()));
        Check.due("it is full", x.look(7), 700);
        Check.due("refused", x.feed(0x78787878, 0x78787878, 0x78787878, 0x78787878, 0x78787878), -1);
        Check.due("still full", x.look(7), 700);
        Check.due("as it was", x.pyramid(), 2);
        LeagueLevels y = new LeagueLevels();
        Check.tell(y, " ".repeat(690) + "^");
        Check.due("691", y.look(7), 691);
        Check.due("refused", y.feed(0x78787878, 0, 0, 0, 0), -1);
        Check.due("691 still", y.look(7), 691);
        Check.due("its fault", y.pyramid(), -1);
        Check.due("is where it was", y.fault(1), 690);
        Check.due("the tape is empty, so they come", y.feed(0x20202020, 0x20202020, 0x20202020, 0x20202020, 0x20202020), 20);
        // Each number's highest byte first, behind what stands there, over what was cut off.
        LeagueLevels z = new LeagueLevels();
        Check.tell(z, "club abcdefg");
        z.end(6);
        Check.due("6 and 20", z.feed(0x7a203120, 0x32206772, 0x61646520, 0x333b2020, 0x20202020), 26);
        Check.due("a club", z.pyramid(), 1);
        Check.tell(z, "az");
        Check.due("whose name is az", z.named(), 0);
        Check.due("x", z.club(0, 0), 1);
        Check.due("y", z.club(0, 1), 2);
    }

    /** Promise 3: false if it has not so many, or n is below 0. */
    private static void endBounds() {
        for (int n : new int[] {-1, -2, Edge.MIN, 1, 2, 20, 700, 701, Edge.MAX}) {
            Edge.idle("end(" + n + ") of an empty tape", Edge::story, x -> Edge.bit(x.end(n)), 0);
        }
        Check.due("end(0) of an empty tape", new LeagueLevels().end(0), true);
        LeagueLevels x = new LeagueLevels();
        Check.tell(x, "x".repeat(700));
        int[] refused = {701, 720, Edge.MAX, -1, Edge.MIN};
        for (int n : refused) {
            Check.due("end(" + n + ") of 700", x.end(n), false);
            Check.due("700 still", x.look(7), 700);
        }
        Check.due("all of them", x.end(700), true);
        Check.due("700", x.look(7), 700);
        Check.due("but one", x.end(699), true);
        Check.due("699", x.look(7), 699);
        Check.due("no longer so many", x.end(700), false);
        Check.due("the first one", x.end(1), true);
        Check.due("1", x.look(7), 1);
        Check.due("none", x.end(0), true);
        Check.due("0", x.look(7), 0);
    }

    /** Promise 4: an empty tape, blanks alone, are a pyramid without a club. */
    private static void pyramidEmpty() {
        for (String text : new String[] {"", " ", "\n", " ".repeat(700)}) {
            LeagueLevels x = Edge.story();
            Check.tell(x, text);
            Check.due("no clubs", x.pyramid(), 0);
            Check.due("no fault", x.fault(0), 0);
            for (int what = 0; what < 8; what++) {
                Check.due("in place of all that was told, " + what, x.look(what), 0);
            }
            Check.due("no club", x.club(0, 0), -3);
            Check.due("no level", x.level(0, 0), -1);
            Check.due("no match", x.match(0, 2, 0), -1);
            Check.due("no end", x.close(), -1);
        }
    }

    /** Promise 4: NONE with a FAULT (all else stays), the tape is empty then. */
    private static void pyramidFaultKeepsAll() {
        String[] texts = {"x", "club new 0 0 grade 0;club new 0 0 grade 0;", "level 0 of 2 down 0 need 0;",
            PAIR + "level 2 of 6 down 6 need 9;", TWO + "club new 9 9 grade 9 in 0 0;",
            "level1of2down0need0;level1of2down0need0;level1of2down0need0;level1of2down0need0;level"};
        for (String text : texts) {
            Edge.idleText("pyramid() of " + text, Edge::story, x -> {
                Check.tell(x, text);
                return x.pyramid();
            });
        }
    }

    /** Promise 4: SEASON 0, nothing can be undone; in place of all that was told. */
    private static void pyramidBeginsAnew() {
        LeagueLevels x = Edge.story();
        x.resign(0);
        Check.tell(x, Edge.STORY);
        Check.due("eight clubs", x.pyramid(), 8);
        int[] due = {2, 8, 2, 0, 0, 0, 0, 0};
        for (int what = 0; what < 8; what++) {
            Check.due("look(" + what + ")", x.look(what), due[what]);
        }
        Check.due("nothing can be undone", x.undo(), false);
        LeagueLevels y = Check.with(Edge.STORY);
        x.show(0, 0);
        y.show(0, 0);
        Check.due("as a new one", Edge.answers(x, true), Edge.answers(y, true));
    }

    /** Promise 5: an empty day has no match, and can't be undone. */
    private static void dayEmpty() {
        for (String text : new String[] {"", " ", "\n", " ".repeat(700)}) {
            Edge.idle("day() of blanks", Edge::story, x -> {
                Check.tell(x, text);
                return x.day();
            }, 0);
        }
        Check.due("without a pyramid, too", new LeagueLevels().day(), 0);
    }

    /** Promise 5: NONE with a FAULT (none of them counts), the tape is empty then. */
    private static void dayFaultKeepsAll() {
        String[] texts = {"x", "c 1-0 a;e 1-0 f", "c 1-0 a;e 1-0 z;", "c 1-0 a;e 100-0 f;", "c 1-0 a;c 1-0 a;",
            "c 1-0 a;w 0-0 d;f 5-0 e;e 0-5 e;", "c 1-0 a;a 1-0 c;"};
        for (String text : texts) {
            Edge.idleText("day() of " + text, Edge::story, x -> {
                Check.tell(x, text);
                return x.day();
            });
        }
    }

    /** Promise 6: NONE for another what. */
    private static void faultOtherWhat() {
        LeagueLevels x = new LeagueLevels();
        Check.tell(x, "  x");
        x.pyramid();
        Check.due("0: its fault", x.fault(0), 1);
        Check.due("1: its place", x.fault(1), 2);
        for (int what : new int[] {-1, -2, 2, 3, Edge.MIN, Edge.MAX}) {
            Check.due("fault(" + what + ")", x.fault(what), -1);
        }
    }

    /** Promise 6: of the latest pyramid(), day(): 0 without, its place NONE. */
    private static void faultOfTheLatest() {
        LeagueLevels x = Edge.story();
        Check.due("none so far", x.fault(0), 0);
        Check.due("nor a place", x.fault(1), -1);
        Check.tell(x, " x");
        x.day();
        Check.due("of the day", x.fault(0), 2);
        Check.due("its place", x.fault(1), 1);
        Check.tell(x, "   x");
        x.pyramid();
        Check.due("of the pyramid", x.fault(0), 1);
        Check.due("its place", x.fault(1), 3);
        x.undo();
        x.close();
        x.named();
        x.show(9, 9);
        Check.due("no other call changes it", x.fault(0), 1);
        Check.due("nor its place", x.fault(1), 3);
        x.day();
        Check.due("without", x.fault(0), 0);
        Check.due("no place", x.fault(1), -1);
        Check.tell(x, "x");
        x.day();
        Check.due("a fault at 0", x.fault(1), 0);
        x.pyramid();
        Check.due("without", x.fault(0), 0);
        Check.due("no place", x.fault(1), -1);
    }

    private static void named(String text, int due) {
        LeagueLevels x = Edge.story();
        Check.tell(x, text);
        Check.due("named() of '" + text + "'", x.named(), due);
        Check.due("the tape is empty", x.look(7), 0);
        Check.due("so there is none", x.named(), -1);
    }

    /** Promise 7: the NAME alone, blanks aside. NONE: there is none. */
    private static void namedAlone() {
        named("a", 0);
        named("v", Edge.WAITS);
        named("b", Edge.GONE);
        named(" ".repeat(699) + "f", 5);
        named("f" + "\n".repeat(699), 5);
        named("", -1);
        named(" ".repeat(700), -1);
        named("x", -1);
        named("aa", -1);
        named("a a", -1);
        named("a b", -1);
        named("a;", -1);
        named("a1", -1);
        named("1a", -1);
        named("A", -1);
        named("0", -1);
        named("club", -1);
        named("a".repeat(8), -1);
        named("a".repeat(700), -1);
        for (String text : new String[] {"a", "x", ";", ""}) {
            Edge.idle("named of '" + text + "'", Edge::story, x -> {
                Check.tell(x, text);
                return x.named();
            }, text.equals("a") ? 0 : -1);
        }
        LeagueLevels x = new LeagueLevels();
        Check.tell(x, "a");
        Check.due("without a club", x.named(), -1);
        LeagueLevels y = Check.with(Edge.filled(30));
        Check.tell(y, Edge.nameOf(29));
        Check.due("the last of thirty", y.named(), 29);
    }
}
