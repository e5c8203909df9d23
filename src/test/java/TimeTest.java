/** Promises 5 start, 6 run, 7 look, and which cycles are whose: windows, kinds, what an order leads to. */
public final class TimeTest {
    private static final Due DUE = new Due();

    public static void main(String[] args) {
        starts();
        refusedStarts();
        startsAgain();
        runs();
        looks();
        windows();
        windowBehindNextRead();
        stopWithNextRead();
        discrimination();
        discriminationTooLate();
        DUE.end();
    }

    private static DelayMachine at(int now) {
        DelayMachine x = new DelayMachine();
        x.start(0, 0);
        x.run(now);
        return x;
    }

    /** The first order is read at the first cycle from NOW on, NOW too. */
    private static void starts() {
        int[][] cases = {{0, 0, 0}, {0, 1, 1}, {0, 31, 31}, {40, 8, 40}, {40, 7, 71}, {40, 9, 41}, {64, 31, 95}};
        for (int[] c : cases) {
            for (int line = 0; line < 2; line++) {
                DelayMachine x = at(c[0]);
                x.order(line, c[1], Orders.stop());
                String name = "from " + c[0] + " start(" + line + ", " + c[1] + ")";
                DUE.is(name, x.start(line, c[1]), true);
                DUE.is(name + " is going", x.look(0), 1);
                DUE.is(name + " cycles before", x.run(c[2] - c[0]), c[2] - c[0]);
                DUE.is(name + " not read yet", x.look(5), 0);
                DUE.is(name + " no line yet", x.look(3), -1);
                DUE.is(name + " no place yet", x.look(4), -1);
                DUE.is(name + " the cycle", x.run(1), 1);
                DUE.is(name + " read", x.look(5), 1);
                DUE.is(name + " line", x.look(3), line);
                DUE.is(name + " place", x.look(4), c[1]);
                DUE.is(name + " to the stop", x.run(100), 2);
            }
        }
    }

    private static void refusedStarts() {
        DelayMachine x = new DelayMachine();
        int[][] wrong = {{-1, 0}, {2, 0}, {0, -1}, {0, 32}, {1, -1}, {1, 32}, {8, 0}, {0, Integer.MIN_VALUE}};
        for (int[] w : wrong) {
            DUE.is("start(" + w[0] + ", " + w[1] + ")", x.start(w[0], w[1]), false);
            DUE.is("refused start: look(0)", x.look(0), 0);
        }
        DUE.is("start(1, 31)", x.start(1, 31), true);
        x.run(40);
        for (int[] w : wrong) {
            DUE.is("going: start(" + w[0] + ", " + w[1] + ")", x.start(w[0], w[1]), false);
        }
        DUE.is("going on after refused starts", x.look(0), 1);
        DUE.is("orders read stay", x.look(5), 5);
    }

    /** A start while it is going drops the window that is open and what was to be read. */
    private static void startsAgain() {
        DelayMachine x = new DelayMachine();
        x.order(0, 0, Orders.all(1, Orders.ADD, 0, 31));
        x.order(1, 20, Orders.stop());
        x.start(0, 0);
        x.run(5);
        DUE.is("A before", x.peek(6, 0), 3);
        DUE.is("start again", x.start(1, 20), true);
        DUE.is("none read in this run", x.look(5), 0);
        DUE.is("no line in this run", x.look(3), -1);
        DUE.is("no place in this run", x.look(4), -1);
        DUE.is("NOW stays", x.look(2), 5);
        DUE.is("run to the stop", x.run(100), 18);
        DUE.is("A after", x.peek(6, 0), 3);
        DUE.is("one order", x.look(5), 1);
        x.order(0, 0, Orders.single(0, Orders.PUNCH, 0, 0));
        x.order(0, 2, Orders.single(0, Orders.PUNCH, 0, 0));
        x.start(0, 0);
        x.run(200);
        DUE.is("a fault", x.look(1), 3);
        x.start(0, 0);
        DUE.is("faults are forgotten", x.look(1), 0);
        DUE.is("punched stays", x.look(7), 1);
        startsBehindNextRead();
    }

    /** The window of the order before the one read latest is dropped too. */
    private static void startsBehindNextRead() {
        DelayMachine x = new DelayMachine();
        x.order(0, 0, Orders.twice(1, Orders.ADD, 0, 0));
        x.start(0, 0);
        x.run(3);
        DUE.is("two were read", x.look(5), 2);
        DUE.is("A in the first cycle", x.peek(6, 0), 1);
        x.start(1, 20);
        x.run(3);
        DUE.is("A stays", x.peek(6, 0), 1);
    }

    private static void runs() {
        DelayMachine x = new DelayMachine();
        DUE.is("not going: run(0)", x.run(0), 0);
        DUE.is("not going: run(2000)", x.run(2000), 0);
        DUE.is("not going: run(-1)", x.run(-1), -1);
        DUE.is("not going: run(2001)", x.run(2001), -1);
        DUE.is("not going: NOW", x.look(2), 0);
        x.start(0, 0);
        DUE.is("run(0)", x.run(0), 0);
        DUE.is("run(-1)", x.run(-1), -1);
        DUE.is("run(2001)", x.run(2001), -1);
        DUE.is("run(least)", x.run(Integer.MIN_VALUE), -1);
        DUE.is("run(most)", x.run(Integer.MAX_VALUE), -1);
        DUE.is("NOW is 0 still", x.look(2), 0);
        DUE.is("run(2000)", x.run(2000), 2000);
        DUE.is("NOW", x.look(2), 2000);
        x.order(0, 16, Orders.stop());
        DUE.is("until the stop, that one included", x.run(2000), 3);
        DUE.is("stopped", x.look(0), 0);
        DUE.is("no fault", x.look(1), 0);
        DUE.is("stopped: run(5)", x.run(5), 0);
        DUE.is("NOW stays", x.look(2), 2003);
        x.start(0, 16);
        DUE.is("a stop in the last of n cycles", x.run(32), 32);
        DUE.is("it is stopped", x.look(0), 0);
    }

    private static void looks() {
        DelayMachine x = new DelayMachine();
        DUE.is("look(-1)", x.look(-1), -1);
        DUE.is("look(9)", x.look(9), -1);
        DUE.is("look(least)", x.look(Integer.MIN_VALUE), -1);
        DUE.is("look(most)", x.look(Integer.MAX_VALUE), -1);
        x.order(0, 0, Orders.order(0, 0, 0, 0, 3, 1));
        x.order(1, 5, Orders.stop());
        x.start(0, 0);
        x.run(100);
        int[] looks = {0, 0, 8, 1, 5, 2, 0, 0, 0};
        for (int what = 0; what < looks.length; what++) {
            DUE.is("look(" + what + ")", x.look(what), looks[what]);
        }
    }

    /** Source 15 into line 5 writes down in which cycles an order that is read at cycle 64 moves. */
    private static void windows() {
        int[][] cases = {
            // kind, wait, timing, first and last cycle of the window, cycle of the next read
            {0, 0, 0, 66, 66, 66}, {0, 0, 31, 66, 66, 97}, {0, 7, 7, 73, 73, 73}, {0, 7, 6, 73, 73, 104},
            {0, 31, 0, 97, 97, 98}, {0, 31, 30, 97, 97, 128}, {0, 31, 31, 97, 97, 97}, {3, 4, 9, 70, 70, 75},
            {1, 0, 9, 66, 67, 75}, {1, 9, 9, 75, 76, 75}, {1, 31, 30, 97, 98, 128}, {1, 31, 31, 97, 98, 97},
            {2, 0, 0, 66, 66, 66}, {2, 3, 9, 69, 75, 75}, {2, 9, 9, 75, 75, 75}, {2, 0, 31, 66, 97, 97},
            {2, 10, 9, 76, 107, 107}, {2, 31, 29, 97, 127, 127}};
        for (int[] c : cases) {
            DelayMachine x = at(64);
            x.order(1, 0, Orders.order(Orders.CYCLE, 5, c[0], c[1], c[2], 1));
            x.order(1, c[5] % 32, c[5] % 32 == 0 ? x.read(1, 0) : Orders.order(0, 0, 0, 0, 31, 0));
            x.start(1, 0);
            String name = "kind " + c[0] + " wait " + c[1] + " timing " + c[2];
            DUE.is(name + " before the next read", x.run(c[5] - 64), c[5] - 64);
            DUE.is(name + " one read", x.look(5), 1);
            x.run(1);
            DUE.is(name + " two read", x.look(5), 2);
            DUE.is(name + " next line", x.look(3), 1);
            DUE.is(name + " next place", x.look(4), c[5] % 32);
            x.run(1);
            for (int t = 66; t < 66 + 64; t++) {
                boolean later = t + 32 <= c[4] && t + 32 >= c[3];
                boolean inside = t >= c[3] && t <= c[4];
                if (inside && !later) {
                    DUE.is(name + " at cycle " + t, x.peek(5, t % 32), t);
                }
            }
            int moved = 0;
            for (int place = 0; place < 32; place++) {
                moved += x.peek(5, place) != 0 ? 1 : 0;
            }
            DUE.is(name + " places", moved, Math.min(32, c[4] - c[3] + 1));
        }
    }

    /** A DOUBLE window that ends behind the next read, with the window of the next order right behind it. */
    private static void windowBehindNextRead() {
        DelayMachine x = new DelayMachine();
        x.order(0, 0, Orders.twice(Orders.CYCLE, 4, 0, 0));
        x.order(0, 2, Orders.twice(Orders.CYCLE, 5, 0, 0));
        x.order(0, 4, Orders.single(0, Orders.STOP, 1, 5));
        x.start(0, 0);
        DUE.is("until the stop", x.run(100), 8);
        for (int t = 0; t < 8; t++) {
            DUE.is("line 4 at " + t, x.peek(4, t), t == 2 || t == 3 ? t : 0);
            DUE.is("line 5 at " + t, x.peek(5, t), t == 4 || t == 5 ? t : 0);
        }
    }

    /** An order is read first, also in the cycle of the stop. */
    private static void stopWithNextRead() {
        DelayMachine x = new DelayMachine();
        x.order(0, 0, Orders.order(0, Orders.STOP, 0, 3, 3, 1));
        x.start(0, 0);
        DUE.is("until the stop", x.run(100), 6);
        DUE.is("orders read", x.look(5), 2);
        DUE.is("line", x.look(3), 1);
        DUE.is("place", x.look(4), 5);
    }

    /** Answers the place of the second order, which A's word decides. */
    private static int placeAfter(int order, int word) {
        DelayMachine x = new DelayMachine();
        x.order(0, 0, order);
        x.word(6, 0, (short) word);
        x.start(0, 0);
        for (int i = 0; i < 100 && x.look(5) < 2; i++) {
            x.run(1);
        }
        return x.look(4);
    }

    private static void discrimination() {
        int below = Orders.BELOW_ZERO;
        int other = Orders.NOT_ZERO;
        DUE.is("below 0: -1", placeAfter(Orders.single(Orders.A, below, 0, 5), -1), 8);
        DUE.is("below 0: -32768", placeAfter(Orders.single(Orders.A, below, 0, 5), -32768), 8);
        DUE.is("below 0: 0", placeAfter(Orders.single(Orders.A, below, 0, 5), 0), 7);
        DUE.is("below 0: 1", placeAfter(Orders.single(Orders.A, below, 0, 5), 1), 7);
        DUE.is("not 0: -1", placeAfter(Orders.single(Orders.A, other, 0, 5), -1), 8);
        DUE.is("not 0: 1", placeAfter(Orders.single(Orders.A, other, 0, 5), 1), 8);
        DUE.is("not 0: 0", placeAfter(Orders.single(Orders.A, other, 0, 5), 0), 7);
        DUE.is("in each cycle of a window, one later", placeAfter(Orders.all(Orders.A, other, 0, 5), 1), 8);
        DUE.is("in two cycles, one later", placeAfter(Orders.twice(Orders.A, other, 0, 5), 1), 8);
        DUE.is("in the cycle before", placeAfter(Orders.single(Orders.A, other, 4, 5), 1), 8);
        DUE.is("two cycles up to the read", placeAfter(Orders.twice(Orders.A, other, 4, 5), 1), 8);
        DUE.is("round the line", placeAfter(Orders.single(Orders.A, other, 3, 29), 1), 0);
        DUE.is("timing below wait", placeAfter(Orders.single(Orders.A, other, 6, 5), 1), 8);
    }

    private static void discriminationTooLate() {
        int other = Orders.NOT_ZERO;
        DUE.is("in the cycle of the read", placeAfter(Orders.single(Orders.A, other, 5, 5), 1), 7);
        DUE.is("two cycles from the read on", placeAfter(Orders.twice(Orders.A, other, 5, 5), 1), 7);
        DelayMachine x = new DelayMachine();
        x.word(6, 0, (short) 1);
        x.order(0, 0, Orders.twice(Orders.A, other, 5, 5));
        x.order(0, 7, Orders.single(0, 0, 0, 0));
        x.start(0, 0);
        x.run(10);
        DUE.is("nor is the read after it later", x.look(4), 9);
        DUE.is("three were read", x.look(5), 3);
        onlyInTheLastCycle();
    }

    /** A LONG window sees a word that is not 0 only in its last cycle, in which the next order is read. */
    private static void onlyInTheLastCycle() {
        DelayMachine x = new DelayMachine();
        x.order(0, 0, Orders.all(2, Orders.NOT_ZERO, 0, 5));
        x.word(2, 7, (short) 3);
        x.start(0, 0);
        x.run(8);
        DUE.is("a word of the last cycle is too late", x.look(4), 7);
        DelayMachine y = new DelayMachine();
        y.order(0, 0, Orders.all(2, Orders.NOT_ZERO, 0, 5));
        y.word(2, 6, (short) 3);
        y.start(0, 0);
        y.run(9);
        DUE.is("a word of the cycle before counts", y.look(4), 8);
    }
}
