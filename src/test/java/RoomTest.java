import java.lang.management.ManagementFactory;

/** Many calls live in one room: none but the constructor may make objects, and no argument may bring a crash. */
public final class RoomTest {
    private static final int[] NUMBERS = {Integer.MIN_VALUE, -1000, -4, -3, -2, -1, 0, 1, 2, 3, 4, 5, 6, 7, 8, 11,
        12, 13, 29, 30, 31, 99, 100, 699, 700, 701, 1 << 16, Integer.MAX_VALUE};
    private static final String PYRAMID = "level3of4down2need0;level2of6down3need1;level1of2down1need2;"
            + "club a1 9grade5in0 0;club b9 1grade5in0 1;club c4 4grade5in0 2;club d7 2grade5in0 0;"
            + "club e3 8grade5in0 1;club f8 8grade5in0 2;club g5 5grade5in0 0;club h2 2grade5in0 1;"
            + "club i6 1grade5in0 2;club j0 3grade5in0 0;club k9 9grade5in0 1;club l1 1grade5in0 2;"
            + "club m4 7grade5in1 0;club n3 1grade5in1 1;club o8 2grade5in1 0;club p7 7grade5in1 1;"
            + "club q2 6grade5in1 0;club r5 0grade5in1 1;club s0 8grade5in1 0;club t6 6grade5in1 1;"
            + "club u9 4grade5in1 0;club v1 5grade5in1 1;club w3 3grade5in1 0;club x8 0grade5in1 1;"
            + "club y2 9grade5in2 0;club z4 1grade5in2 0;club aa7 3grade5;club bb0 0grade5;";

    public static void main(String[] args) {
        int[] pyramid = wordsOf(PYRAMID);
        int[] day = wordsOf("a1-0d;g2-2j;b1-0e;m3-0o;n1-1p;y0-1z;z0-0y;k4-0h;f1-0c;");
        int calls = 0;
        // Asking makes something too: as much as is made between two questions alone.
        made();
        long asking = -made() + made();
        // The first rounds load classes and warm the machine; what they make is not of the program.
        for (int round = 0; round < 4; round++) {
            LeagueLevels x = new LeagueLevels();
            long before = made();
            calls = busy(x, pyramid, day);
            long after = made();
            if (round > 1) {
                // Less than ten bytes a call: no call makes an object, whatever the machine itself does.
                Check.due("bytes made by " + calls + " calls", after - before - asking < 4000, true);
            }
        }
        long before = made();
        LeagueLevels x = new LeagueLevels();
        long after = made();
        Check.due("a small object, not " + (after - before) + " bytes", after - before < 100000, true);
        Check.due("it stands", x.look(1), 0);
        Check.due("many calls", calls > 200, true);
        anyNumbers(new LeagueLevels());
        LeagueLevels y = new LeagueLevels();
        tell(y, pyramid, PYRAMID.length());
        Check.due("the pyramid stands", y.pyramid(), 28);
        anyNumbers(y);
        Check.finish();
    }

    private static long made() {
        return ((com.sun.management.ThreadMXBean) ManagementFactory.getThreadMXBean())
                .getThreadAllocatedBytes(Thread.currentThread().getId());
    }

    private static int[] wordsOf(String text) {
        StringBuilder b = new StringBuilder(text);
        while (b.length() % 20 != 0) {
            b.append(' ');
        }
        int[] all = new int[b.length() / 4];
        for (int i = 0; i < b.length(); i += 20) {
            System.arraycopy(Check.words(b.substring(i, i + 20)), 0, all, i / 4, 5);
        }
        return all;
    }

    private static void tell(LeagueLevels x, int[] w, int length) {
        for (int i = 0; i < w.length; i += 5) {
            x.feed(w[i], w[i + 1], w[i + 2], w[i + 3], w[i + 4]);
        }
        x.end(length);
    }

    private static int busy(LeagueLevels x, int[] pyramid, int[] day) {
        int calls = 0;
        tell(x, pyramid, PYRAMID.length());
        x.pyramid();
        for (int season = 0; season < 4; season++) {
            tell(x, day, day.length * 4);
            x.day();
            x.resign(season);
            x.refuse(season + 12);
            x.deduct(season + 4, 50);
            x.grade(season + 7, 9 - season);
            x.named();
            for (int c = 0; c < 28; c++) {
                x.would(c);
                x.needs(c);
                x.parted(c);
                calls += 3;
            }
            for (int l = 0; l < 3; l++) {
                x.level(l, 7);
                x.swap(l, 0);
                x.strangers(l);
                x.middle(l);
                x.show(l, 0);
                x.moves(l, 0, 0);
                x.rest(l, 0);
                x.order(l, 1);
                calls += 8;
            }
            x.average(1);
            x.above(1);
            x.journeys(1);
            x.undo();
            x.close();
        }
        return calls;
    }

    /** Every call with numbers of all kinds; an exception ends the test. */
    private static void anyNumbers(LeagueLevels x) {
        long sum = 0;
        for (int a : NUMBERS) {
            sum += x.fault(a) + x.points(a) + x.average(a) + x.would(a) + x.needs(a) + x.parted(a) + x.middle(a)
                    + x.above(a) + x.journeys(a) + x.nearest(a) + x.strangers(a) + x.out(a) + x.look(a);
            for (int b : NUMBERS) {
                sum += x.club(a, b) + x.of(a, b) + x.order(a, b) + x.level(a, b) + x.swap(a, b) + x.rest(a, b)
                        + x.versus(a, b) + x.show(a, b);
                sum += x.grade(a, b) ? 1 : 0;
                sum += x.deduct(a, b) ? 1 : 0;
                for (int c : NUMBERS) {
                    sum += x.ranked(a, b, c) + x.moves(a, b, c) + x.match(a, b, c);
                }
            }
            sum += x.refuse(a) ? 1 : 0;
            sum += x.resign(a) ? 1 : 0;
            sum += x.close();
            sum += x.feed(a, a, a, a, a);
            sum += x.end(a) ? 1 : 0;
            sum += x.named() + x.day() + (x.undo() ? 1 : 0);
        }
        Check.due("it came so far", sum != 1, true);
        Check.due("and answers still", x.look(9), -1);
    }
}
