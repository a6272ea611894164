/**
 * Promises 14 to 19 and 26 to 36, and the bounds of MILES, POINTS, RANK, AVERAGE and ORDER: one method for each
 * sentence that names a boundary.
 */
public final class AnswerEdgesTest {
    private static final int[] BAD_WHATS = {-1, -2, 8, 9, Edge.MIN, Edge.MAX};
    private static final int[] NO_LEVELS = {-1, -2, 2, 3, 4, Edge.MIN, Edge.MAX};

    public static void main(String[] args) {
        milesBounds();
        pointsOfAMatch();
        rankTies();
        averageWithout();
        orderTies();
        clubNoneSuch();
        clubOfEachKind();
        ofNoneSuch();
        ofFirstAndLast();
        pointsNone();
        averageNone();
        rankedBounds();
        orderBounds();
        middleBounds();
        restBounds();
        restWithoutMatch();
        matchNone();
        aboveBounds();
        journeysBounds();
        nearestBounds();
        versusBounds();
        strangersBounds();
        showBounds();
        outBounds();
        lookBounds();
        Check.finish();
    }

    private static LeagueLevels pair(int x, int y, int otherX, int otherY) {
        return Check.with("level 1 of 2 down 0 need 0;club a " + x + " " + y + " grade 0 in 0 0;club b " + otherX + " "
                + otherY + " grade 0 in 0 0;");
    }

    /** Terms: MILES: the greatest whole number whose square isn't above that of their distance. */
    private static void milesBounds() {
        Check.due("one place", pair(50, 50, 50, 50).of(0, 7), 0);
        Check.due("one mile", pair(0, 0, 0, 1).of(0, 7), 1);
        Check.due("1 and 1: 2 is above 1, below 4", pair(0, 0, 1, 1).of(0, 7), 1);
        Check.due("3 and 4: 25 is the square of 5", pair(0, 0, 3, 4).of(0, 7), 5);
        Check.due("2 and 4: 20 is below 25", pair(0, 0, 2, 4).of(0, 7), 4);
        Check.due("1 and 5: 26 is above 25", pair(0, 0, 1, 5).of(0, 7), 5);
        Check.due("99 in a line", pair(0, 7, 99, 7).of(0, 7), 99);
        Check.due("99 and 99: 19602 is above 19600", pair(0, 0, 99, 99).of(0, 7), 140);
        Check.due("and crosswise", pair(99, 0, 0, 99).of(0, 7), 140);
        Check.due("98 and 99: 19405 is below 19600", pair(0, 1, 99, 99).of(1, 7), 139);
        // Squares just met and just missed: 60 and 91 make 109, 60 and 90 less.
        Check.due("60 and 91", pair(0, 0, 60, 91).of(0, 7), 109);
        Check.due("60 and 90", pair(0, 0, 60, 90).of(0, 7), 108);
    }

    /** Terms: 3 POINTS to who has more goals, 1 to each of like ones. */
    private static void pointsOfAMatch() {
        String[] days = {"a 1-0 b;", "a 0-1 b;", "a 0-0 b;", "a 99-99 b;", "a 99-98 b;", "a 0-99 b;"};
        int[][] due = {{3, 0}, {0, 3}, {1, 1}, {1, 1}, {3, 0}, {0, 3}};
        for (int i = 0; i < days.length; i++) {
            LeagueLevels x = pair(0, 0, 0, 0);
            Check.play(x, days[i]);
            for (int c = 0; c < 2; c++) {
                Check.due(days[i] + " points of " + c, x.points(c), due[i][c]);
                Check.due(days[i] + " won by " + c, x.of(c, 1), due[i][c] / 3);
                Check.due(days[i] + " drawn by " + c, x.of(c, 2), due[i][c] == 1 ? 1 : 0);
            }
        }
    }

    /** Terms: RANK by POINTS, then by goals less those against, then by goals, then by number. */
    private static void rankTies() {
        String four = Edge.filled(0, Edge.four(1, 4, 0, 0));
        String[] days = {"", "c 1-0 d;", "a 0-5 b;c 0-4 d;", "a 1-0 b;c 2-1 d;", "a 1-0 b;c 1-0 d;", "c 0-1 d;a 9-9 b;"};
        // Points; goals less those against; goals; number; points ahead of goals.
        String[] due = {"0123", "2013", "1320", "2031", "0213", "3012"};
        for (int i = 0; i < days.length; i++) {
            LeagueLevels x = Check.with(four);
            Check.play(x, days[i]);
            StringBuilder b = new StringBuilder();
            for (int r = 1; r <= 4; r++) {
                b.append(x.ranked(0, 0, r));
            }
            Check.due("by rank behind " + days[i], b.toString(), due[i]);
        }
    }

    /** Terms: AVERAGE 0 without MATCHES, whatever is DEDUCTED. */
    private static void averageWithout() {
        LeagueLevels x = pair(0, 0, 0, 0);
        Check.due("nothing", x.average(0), 0);
        x.deduct(0, 99);
        Check.due("without a match", x.average(0), 0);
        Check.play(x, "a 1-0 b;");
        Check.due("with one", x.average(0), Float.floatToIntBits(-96f));
        Check.due("no points of one", x.average(1), 0);
        Check.play(x, "b 0-0 a;");
        Check.due("with two", x.average(0), Float.floatToIntBits(-95f / 2f));
        Check.due("one of two", x.average(1), Float.floatToIntBits(0.5f));
        x.undo();
        x.undo();
        Check.due("undone", x.average(0), 0);
    }

    /** Terms: ORDER by RANK, of like RANK the greater AVERAGE ahead, then by number. */
    private static void orderTies() {
        LeagueLevels x = Check.with(Edge.filled(0, Edge.four(3, 2, 0, 0)));
        order(x, "by number", "024135");
        Check.play(x, "e 1-0 f;");
        order(x, "e has the greater average, f as the others", "402135");
        Check.play(x, "a 0-0 b;b 0-1 a;");
        // a has 4 of 2, b 1 of 2; e 3 of 1.
        order(x, "a's is less than e's, b's greater", "402135");
        Check.play(x, "f 0-1 e;c 1-0 d;d 0-5 c;");
        order(x, "c and e have 3, by number", "240135");
        x.deduct(1, 2);
        order(x, "b's is below 0", "240351");
    }

    private static void order(LeagueLevels x, String when, String due) {
        StringBuilder b = new StringBuilder();
        for (int i = 0; i < due.length(); i++) {
            b.append(x.order(0, i));
            Check.due(when + ", place of " + x.order(0, i), x.of(x.order(0, i), 6), i);
        }
        Check.due(when, b.toString(), due);
    }

    /** Promise 14: -3: there is none such, or another what. */
    private static void clubNoneSuch() {
        LeagueLevels x = Edge.story();
        for (int what = 0; what < 8; what++) {
            for (int club : Edge.NO_CLUBS) {
                Check.due("club(" + club + ", " + what + ")", x.club(club, what), -3);
            }
        }
        for (int what : BAD_WHATS) {
            Check.due("club(0, " + what + ")", x.club(0, what), -3);
            Check.due("club(-1, " + what + ")", x.club(-1, what), -3);
        }
    }

    /** Promise 14: LEVEL (NONE: it WAITS; -2: GONE), DIVISION (NONE: of none). */
    private static void clubOfEachKind() {
        LeagueLevels x = Edge.story();
        int[][] due = {{0, 0, 5, 0, 0, 0, 0, 0}, {3, 4, 5, -2, -1, 0, 0, 0}, {6, 8, 5, 0, 0, 0, 0, 0},
            {9, 12, 4, 1, 0, 0, 0, 9}, {30, 40, 5, 1, 1, 0, 1, 0}, {33, 44, 0, 1, 1, 0, 0, 0},
            {1, 1, 2, 1, 0, 0, 0, 0}, {2, 2, 9, -1, -1, 0, 0, 0}};
        for (int c = 0; c < 8; c++) {
            for (int what = 0; what < 8; what++) {
                Check.due("club(" + c + ", " + what + ")", x.club(c, what), due[c][what]);
            }
        }
    }

    /** Promise 15: NONE: there is none such (no CLUB of a DIVISION), or another what. */
    private static void ofNoneSuch() {
        LeagueLevels x = Edge.story();
        for (int what = 0; what < 8; what++) {
            for (int club : Edge.NOT_PLAYING) {
                Check.due("of(" + club + ", " + what + ")", x.of(club, what), -1);
            }
            Check.due("there is one", x.of(0, what) >= 0, true);
        }
        for (int what : BAD_WHATS) {
            Check.due("of(0, " + what + ")", x.of(0, what), -1);
        }
    }

    /** Promise 15: RANK from 1 on, place in the ORDER from 0 on. */
    private static void ofFirstAndLast() {
        LeagueLevels x = Check.with(Edge.filled(0, Edge.four(2, 6, 0, 0)));
        for (int c = 0; c < 12; c++) {
            Check.due("rank of " + c, x.of(c, 5), c % 6 + 1);
            Check.due("place of " + c, x.of(c, 6), 2 * (c % 6) + c / 6);
        }
        x.deduct(0, 1);
        Check.due("the last rank", x.of(0, 5), 6);
        // Without a match its average is 0 as the other one's.
        Check.due("the last but one place", x.of(0, 6), 10);
    }

    /** Promise 16: Integer.MIN_VALUE: no CLUB of a DIVISION. */
    private static void pointsNone() {
        LeagueLevels x = Edge.story();
        for (int club : Edge.NOT_PLAYING) {
            Check.due("points(" + club + ")", x.points(club), Integer.MIN_VALUE);
        }
        int[] due = {3, 0, 0, -8, 0, 0, 1, 0};
        for (int club = 0; club < 7; club++) {
            if (club != Edge.GONE) {
                Check.due("points(" + club + ")", x.points(club), due[club]);
            }
        }
    }

    /** Promise 17: NONE: there is none such. */
    private static void averageNone() {
        LeagueLevels x = Edge.story();
        for (int club : Edge.NOT_PLAYING) {
            Check.due("average(" + club + ")", x.average(club), -1);
        }
        Check.due("3 of 1", x.average(0), Float.floatToIntBits(3f));
        Check.due("0 of 1", x.average(2), 0);
        Check.due("-8 of 1", x.average(3), Float.floatToIntBits(-8f));
        Check.due("without", x.average(4), 0);
    }

    /** Promise 18: RANK r (from 1 on) of a DIVISION of a LEVEL. NONE: there is none such. */
    private static void rankedBounds() {
        LeagueLevels x = Edge.story();
        Check.due("the first", x.ranked(0, 0, 1), 0);
        Check.due("the last", x.ranked(0, 0, 2), 2);
        Check.due("of the last division", x.ranked(1, 1, 2), 5);
        for (int r : new int[] {0, -1, 3, 4, Edge.MIN, Edge.MAX}) {
            Check.due("ranked(0, 0, " + r + ")", x.ranked(0, 0, r), -1);
            Check.due("ranked(1, 1, " + r + ")", x.ranked(1, 1, r), -1);
        }
        for (int level : NO_LEVELS) {
            Check.due("ranked(" + level + ", 0, 1)", x.ranked(level, 0, 1), -1);
        }
        for (int division : new int[] {-1, -2, 2, 3, Edge.MIN, Edge.MAX}) {
            Check.due("ranked(1, " + division + ", 1)", x.ranked(1, division, 1), -1);
        }
        Check.due("the top has one division", x.ranked(0, 1, 1), -1);
        LeagueLevels y = Check.with(Edge.filled(0, Edge.four(2, 6, 0, 0)));
        Check.due("the sixth of six", y.ranked(0, 1, 6), 11);
        Check.due("no seventh", y.ranked(0, 1, 7), -1);
    }

    /** Promise 19: the i-th (from 0 on). NONE: there is none such. */
    private static void orderBounds() {
        LeagueLevels x = Check.with(Edge.filled(0, Edge.four(1, 2, 0, 0), Edge.four(3, 4, 0, 0)));
        Check.due("the first", x.order(0, 0), 0);
        Check.due("the last of two", x.order(0, 1), 1);
        Check.due("no third", x.order(0, 2), -1);
        Check.due("the first of twelve", x.order(1, 0), 2);
        Check.due("the last of twelve", x.order(1, 11), 13);
        Check.due("no thirteenth", x.order(1, 12), -1);
        for (int i : new int[] {-1, -2, 13, 30, Edge.MIN, Edge.MAX}) {
            Check.due("order(1, " + i + ")", x.order(1, i), -1);
        }
        for (int level : NO_LEVELS) {
            Check.due("order(" + level + ", 0)", x.order(level, 0), -1);
        }
    }

    /** Promise 26: of several the first. NONE: there is none such. */
    private static void middleBounds() {
        LeagueLevels x = Check.with(Edge.filled(0, Edge.four(1, 2, 0, 0), Edge.four(3, 4, 0, 0)));
        Check.due("all alike", x.middle(0), 0);
        Check.due("all alike", x.middle(1), 2);
        for (int level : NO_LEVELS) {
            Check.due("middle(" + level + ")", x.middle(level), -1);
        }
        LeagueLevels y = Check.with("level 2 of 2 down 0 need 0;club a 0 0 grade 0 in 0 0;club b 9 0 grade 0 in 0 1;"
                + "club c 4 0 grade 0 in 0 0;club d 5 0 grade 0 in 0 1;");
        // To all of the level, not of the division: c and d have 10 both.
        Check.due("the first of two", y.middle(0), 2);
    }

    /** Promise 27: by its MATCHES told so far, what is left by 1.0. */
    private static void restBounds() {
        LeagueLevels x = pair(0, 0, 0, 7);
        Check.play(x, "a 0-0 b;");
        Check.due("14 by 1", x.rest(0, 0), 0L);
        Check.play(x, "b 0-0 a;");
        Check.due("14 by 2", x.rest(0, 0), 0L);
        LeagueLevels y = pair(5, 5, 5, 5);
        Check.play(y, "a 0-0 b;");
        Check.due("0 by 1", y.rest(0, 0), 0L);
        LeagueLevels z = Check.with("level 1 of 3 down 0 need 0;club a 0 0 grade 0 in 0 0;club b 0 1 grade 0 in 0 0;"
                + "club c 0 2 grade 0 in 0 0;");
        String[] days = {"a 0-0 b;", "b 0-0 a;", "a 0-0 c;", "c 0-0 a;", "b 0-0 c;", "c 0-0 b;"};
        for (int i = 0; i < 6; i++) {
            Check.play(z, days[i]);
            Check.due("8 by " + (i + 1), z.rest(0, 0), Double.doubleToLongBits(8.0 / (i + 1) % 1.0));
        }
    }

    /** Promise 27: NONE: there is none such, or no MATCH. */
    private static void restWithoutMatch() {
        LeagueLevels x = Edge.story();
        Check.due("a match", x.rest(0, 0), 0L);
        Check.due("a match", x.rest(1, 0), 0L);
        Check.due("no match of its own", x.rest(1, 1), -1L);
        for (int level : NO_LEVELS) {
            Check.due("rest(" + level + ", 0)", x.rest(level, 0), -1L);
        }
        for (int division : new int[] {-1, -2, 2, 3, Edge.MIN, Edge.MAX}) {
            Check.due("rest(1, " + division + ")", x.rest(1, division), -1L);
        }
        Check.due("the top has one division", x.rest(0, 1), -1L);
        while (x.undo()) {
            Check.due("undone", x.look(6) < 4, true);
        }
        Check.due("no match", x.rest(0, 0), -1L);
    }

    /** Promise 28: NONE: it was not, or another what. */
    private static void matchNone() {
        LeagueLevels x = Edge.story();
        Check.due("home goals", x.match(0, 2, 0), 2);
        Check.due("away goals", x.match(0, 2, 1), 1);
        Check.due("no goals are told too", x.match(3, 6, 0) + x.match(3, 6, 1), 0);
        Check.due("not at the other home", x.match(2, 0, 0), -1);
        Check.due("not at the other home", x.match(6, 3, 1), -1);
        Check.due("not told", x.match(4, 5, 0), -1);
        Check.due("one club", x.match(0, 0, 0), -1);
        Check.due("unlike divisions", x.match(0, 3, 0), -1);
        for (int what : new int[] {-1, -2, 2, 3, Edge.MIN, Edge.MAX}) {
            Check.due("match(0, 2, " + what + ")", x.match(0, 2, what), -1);
        }
        for (int club : Edge.NOT_PLAYING) {
            for (int what = 0; what < 2; what++) {
                Check.due("match(" + club + ", 2)", x.match(club, 2, what), -1);
                Check.due("match(0, " + club + ")", x.match(0, club, what), -1);
                Check.due("match(" + club + ", " + club + ")", x.match(club, club, what), -1);
            }
        }
    }

    /** Promise 29: as many POINTS as a CLUB has now, or more, if they win all that are left. NONE: no CLUB. */
    private static void aboveBounds() {
        LeagueLevels x = pair(0, 0, 0, 0);
        Check.due("0 and 6", x.above(0), 1);
        Check.play(x, "a 1-0 b;");
        Check.due("3 and 3: as many", x.above(0), 1);
        x.deduct(1, 1);
        Check.due("3 and 2", x.above(0), 0);
        x.undo();
        Check.play(x, "b 1-1 a;");
        Check.due("4 and 1, none left", x.above(0), 0);
        Check.due("1 and 4, none left", x.above(1), 1);
        x.deduct(0, 3);
        Check.due("1 and 1, none left", x.above(0), 1);
        x.deduct(0, 99);
        Check.due("below 0", x.above(1), 0);
        Check.due("who is below 0", x.above(0), 1);
        LeagueLevels y = Check.with(Edge.filled(0, Edge.four(2, 6, 0, 0)));
        Check.due("five others of six", y.above(0), 5);
        LeagueLevels z = Edge.story();
        for (int club : Edge.NOT_PLAYING) {
            Check.due("above(" + club + ")", z.above(club), -1);
        }
    }

    /** Promise 30: there and back, not at its home. NONE: no CLUB of a DIVISION. */
    private static void journeysBounds() {
        LeagueLevels x = Edge.story();
        Check.due("at home", x.journeys(0), 0);
        Check.due("to a and back", x.journeys(2), 20);
        Check.due("without a match", x.journeys(4), 0);
        for (int club : Edge.NOT_PLAYING) {
            Check.due("journeys(" + club + ")", x.journeys(club), -1);
        }
        LeagueLevels y = Check.with("level 1 of 6 down 0 need 0;club a 0 0 grade 0 in 0 0;club b 99 99 grade 0 in 0 0;"
                + "club c 99 99 grade 0 in 0 0;club d 99 99 grade 0 in 0 0;club e 99 99 grade 0 in 0 0;"
                + "club f 99 99 grade 0 in 0 0;");
        Check.play(y, "b 0-0 a;c 0-0 a;d 0-0 a;e 0-0 a;f 0-0 a;");
        Check.due("the farthest", y.journeys(0), 1400);
        y.close();
        Check.due("none of this season", y.journeys(0), 0);
    }

    /** Promise 31: of several the first. NONE: no CLUB of a DIVISION. */
    private static void nearestBounds() {
        LeagueLevels x = Edge.story();
        for (int club : Edge.NOT_PLAYING) {
            Check.due("nearest(" + club + ")", x.nearest(club), -1);
        }
        Check.due("the other one of two", x.nearest(0), 2);
        Check.due("the other one of two", x.nearest(2), 0);
        LeagueLevels y = Check.with(Edge.filled(0, Edge.four(2, 6, 0, 0)));
        Check.due("not itself", y.nearest(0), 1);
        for (int c = 1; c < 6; c++) {
            Check.due("the first", y.nearest(c), 0);
        }
        Check.due("the first of its own division", y.nearest(11), 6);
    }

    /** Promise 32: times 10, and those of the other one. NONE: no two unlike CLUBS of DIVISIONS. */
    private static void versusBounds() {
        String[] days = {"", "a 1-0 b;", "a 1-0 b;b 0-1 a;", "a 0-1 b;b 1-0 a;", "a 0-0 b;b 0-0 a;", "a 1-0 b;b 1-0 a;",
            "a 1-0 b;b 0-0 a;"};
        int[] due = {0, 30, 60, 6, 22, 33, 41};
        for (int i = 0; i < days.length; i++) {
            LeagueLevels x = pair(0, 0, 0, 0);
            Check.play(x, days[i]);
            Check.due("versus behind " + days[i], x.versus(0, 1), due[i]);
            Check.due("and turned", x.versus(1, 0), due[i] % 10 * 10 + due[i] / 10);
        }
        LeagueLevels x = Edge.story();
        for (int club : Edge.NOT_PLAYING) {
            Check.due("versus(" + club + ", 0)", x.versus(club, 0), -1);
            Check.due("versus(0, " + club + ")", x.versus(0, club), -1);
            Check.due("versus(" + club + ", " + club + ")", x.versus(club, club), -1);
        }
        for (int club = 0; club < 8; club++) {
            Check.due("the same one", x.versus(club, club), -1);
        }
        Check.due("of unlike divisions", x.versus(3, 4), 0);
        Check.due("of unlike levels", x.versus(0, 3), 0);
    }

    /** Promise 33: fewer MILES to some other DIVISION than to their own. NONE: there is none such. */
    private static void strangersBounds() {
        String clubs = "club b 9 0 grade 0 in 0 0;club c 0 0 grade 0 in 0 1;club d ";
        // a has 9 to b, and as many, one fewer, one more to c and d together.
        int[] places = {9, 8, 10};
        for (int place : places) {
            LeagueLevels x = Check.with("level 2 of 2 down 0 need 0;club a 0 0 grade 0 in 0 0;" + clubs + place
                    + " 0 grade 0 in 0 1;");
            Check.due("a, where d is at " + place, x.strangers(0) & 1, place < 9 ? 1 : 0);
        }
        LeagueLevels x = Edge.story();
        for (int level : NO_LEVELS) {
            Check.due("strangers(" + level + ")", x.strangers(level), -1);
        }
        Check.due("one division", x.strangers(0), 0);
        Check.due("all alike", Check.with(Edge.filled(0, Edge.four(3, 4, 0, 0))).strangers(0), 0);
        StringBuilder b = new StringBuilder(Edge.filled(26));
        b.append("level2of2down0need0;club zw0 0grade0in0 0;");
        b.append("club zx50 0grade0in0 1;club zy0 0grade0in0 1;club zz50 0grade0in0 0;");
        LeagueLevels y = Check.with(b.toString());
        // All have 50 to their own and 50 to the other: as many.
        Check.due("the highest numbers, as many", y.strangers(0), 0);
        LeagueLevels z = Check.with(b.toString().replace("zz50 0", "zz99 0"));
        // zw has 99 to its own, 50 to the other division; zz 99 and 148; zx 50 and 99, zy 50 and 99.
        Check.due("number 26 alone", z.strangers(0), 1 << 26);
        LeagueLevels w = Check.with(b.toString().replace("zz50 0", "zz25 0").replace("zx50 0", "zx25 0")
                .replace("zy0 0", "zy25 0").replace("zw0 0", "zw99 0"));
        // zz has 74 to zw and none to the others.
        Check.due("number 29 alone", w.strangers(0), 1 << 29);
    }

    /** Promise 34: "-" ahead of those below 0, nothing else. NONE: there is none such. */
    private static void showBounds() {
        LeagueLevels x = Edge.story();
        for (int level : NO_LEVELS) {
            Edge.idle("show(" + level + ", 0)", Edge::story, y -> y.show(level, 0), -1);
        }
        for (int division : new int[] {-1, -2, 2, 3, Edge.MIN, Edge.MAX}) {
            Edge.idle("show(1, " + division + ")", Edge::story, y -> y.show(1, division), -1);
        }
        Edge.idle("the top has one division", Edge::story, y -> y.show(0, 1), -1);
        Check.due("the top", Check.shown(x, 0, 0), "a 3 1;c 0 1;");
        Check.due("below 0", Check.shown(x, 1, 0), "w 1 1;d -8 1;");
        Check.due("nothing", Check.shown(x, 1, 1), "e 0 0;f 0 0;");
        x.deduct(0, 3);
        Check.due("0 has no sign", Check.shown(x, 0, 0), "a 0 1;c 0 1;");
        x.deduct(0, 1);
        Check.due("-1", Check.shown(x, 0, 0), "c 0 1;a -1 1;");
        for (int i = 0; i < 10; i++) {
            x.deduct(4, 99);
        }
        x.deduct(4, 9);
        Check.due("-999", Check.shown(x, 1, 1), "f 0 0;e -999 0;");
        LeagueLevels y = Check.with(Edge.filled(0, Edge.four(1, 6, 0, 0)));
        for (String other : new String[] {"b", "c", "d", "e", "f"}) {
            Check.play(y, "a 1-0 " + other + ";" + other + " 0-1 a;");
        }
        Check.due("30 of 10", Check.shown(y, 0, 0), "a 30 10;b 0 2;c 0 2;d 0 2;e 0 2;f 0 2;");
    }

    /** Promise 35: the i-th byte (from 0 on) of what was SHOWN latest. NONE: there is none such. */
    private static void outBounds() {
        Check.due("nothing was shown", new LeagueLevels().out(0), -1);
        LeagueLevels x = Edge.story();
        Check.due("how many", x.show(1, 0), 13);
        Check.due("the first", x.out(0), 'w');
        Check.due("the last", x.out(12), ';');
        for (int i : new int[] {-1, -2, 13, 14, 95, 96, 97, Edge.MIN, Edge.MAX}) {
            Check.due("out(" + i + ")", x.out(i), -1);
        }
        Check.due("a shorter one", x.show(0, 0), 12);
        Check.due("its last", x.out(11), ';');
        Check.due("nothing of the longer one", x.out(12), -1);
        // Shown is what it was then: later deeds don't change it.
        x.deduct(0, 50);
        x.close();
        Check.due("as it was", x.out(2), '3');
        Check.tell(x, "");
        x.pyramid();
        Check.due("as it was", x.out(0), 'a');
    }

    /** Promise 36: NONE for another what. */
    private static void lookBounds() {
        LeagueLevels x = Edge.story();
        int[] due = {2, 8, 1, 1, 1, 2, 4, 0};
        for (int what = 0; what < 8; what++) {
            Check.due("look(" + what + ")", x.look(what), due[what]);
        }
        for (int what : BAD_WHATS) {
            Check.due("look(" + what + ")", x.look(what), -1);
        }
        Check.tell(x, "abc");
        Check.due("bytes of the tape", x.look(7), 3);
        x.resign(3);
        Check.due("five can be undone", x.look(6), 5);
        x.close();
        int[] then = {2, 8, 0, 2, 2, 0, 0, 3};
        for (int what = 0; what < 8; what++) {
            Check.due("look(" + what + ") behind the end", x.look(what), then[what]);
        }
    }
}
