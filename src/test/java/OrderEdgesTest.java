/** The edges under ORDER: its parts, its WINDOW, its GAP, and when the next order is read. */
public final class OrderEdgesTest {
    private static final Due DUE = new Due();
    /** Source 1, added to A: A counts the cycles of the window. Written as a number, as the document has the bits. */
    private static final int COUNTS = 1 + 9 * 16;
    private static final int ONE_KIND = 256;
    private static final int ONE_WAIT = 1024;
    private static final int ONE_TIMING = 32768;
    private static final int LINE_ONE = 1048576;

    public static void main(String[] args) {
        lowestAndHighestOrder();
        eachPartAlone();
        singleWindow();
        doubleWindow();
        longWindow();
        kindThreeIsSingle();
        gapAtWaitAndBelow();
        everyWaitAndTiming();
        movedAtTheEndOfTheCycle();
        oneLaterIfItDiscriminated();
        laterGoesRound();
        oneLaterOnlyOnce();
        discriminatesInTime();
        discriminatesTooLate();
        eachOrderDiscriminatesForItself();
        startForgetsDiscrimination();
        belowZero();
        notZero();
        DUE.end();
    }

    /** The order is read at cycle 0; its next order lies in the other line, so that it is never read again here. */
    private static void window(String name, int order, int first, int last, int nextRead) {
        DelayMachine x = new DelayMachine();
        int nextLine = order >> 20;
        x.order(1 - nextLine, 0, order);
        x.start(1 - nextLine, 0);
        for (int cycle = 0; cycle <= nextRead + 1; cycle++) {
            x.run(1);
            int moved = cycle < first ? 0 : Math.min(cycle, last) - first + 1;
            boolean before = cycle < nextRead;
            DUE.is(name + ": moves up to cycle " + cycle, x.peek(6, 0), moved);
            DUE.is(name + ": orders up to cycle " + cycle, x.look(5), before ? 1 : 2);
            DUE.is(name + ": line at cycle " + cycle, x.look(3), before ? 1 - nextLine : nextLine);
            DUE.is(name + ": place at cycle " + cycle, x.look(4), before ? 0 : nextRead % 32);
        }
    }

    /** "An ORDER is a number of 21 bits": 0 and 2097151. */
    private static void lowestAndHighestOrder() {
        DelayMachine x = new DelayMachine();
        DUE.is("order(0, 0, 0)", x.order(0, 0, 0), true);
        x.start(0, 0);
        x.run(3);
        DUE.is("order 0: the next one is read at cycle 2", x.look(5), 2);
        DUE.is("order 0: place", x.look(4), 2);
        DelayMachine y = new DelayMachine();
        DUE.is("order(0, 0, 2097151)", y.order(0, 0, 2097151), true);
        y.start(0, 0);
        y.run(33);
        DUE.is("order 2097151: not punched yet", y.look(7), 0);
        DUE.is("order 2097151: the next one is not read yet", y.look(5), 1);
        y.run(1);
        DUE.is("order 2097151: the cycle is punched", y.punched(0), 33);
        DUE.is("order 2097151: line", y.look(3), 1);
        DUE.is("order 2097151: place", y.look(4), 1);
        y.run(1);
        DUE.is("order 2097151: it is SINGLE", y.look(1), 0);
    }

    /** "bits 0 .. 3 its SOURCE, 4 .. 7 its DESTINATION, 8 and 9 its KIND, 10 .. 14 its WAIT, 15 .. 19 its TIMING". */
    private static void eachPartAlone() {
        window("no other bit", COUNTS, 2, 2, 2);
        window("bit 8", COUNTS + 256, 2, 3, 2);
        window("bit 9", COUNTS + 512, 2, 2, 2);
        window("bits 8 and 9", COUNTS + 768, 2, 2, 2);
        window("bit 10", COUNTS + 1024, 3, 3, 34);
        window("bit 14", COUNTS + 16384, 18, 18, 34);
        window("bits 10 .. 14", COUNTS + 31744, 33, 33, 34);
        window("bit 15", COUNTS + 32768, 2, 2, 3);
        window("bit 19", COUNTS + 524288, 2, 2, 18);
        window("bits 15 .. 19", COUNTS + 1015808, 2, 2, 33);
        window("bit 20", COUNTS + 1048576, 2, 2, 2);
        window("all bits from 10 on", COUNTS + 2096128, 33, 33, 33);
    }

    private static int counting(int kind, int wait, int timing) {
        return COUNTS + kind * ONE_KIND + wait * ONE_WAIT + timing * ONE_TIMING + (wait % 2) * LINE_ONE;
    }

    /** "its WINDOW is the cycle m + 2 + WAIT". */
    private static void singleWindow() {
        window("SINGLE, wait 0", counting(0, 0, 20), 2, 2, 22);
        window("SINGLE, wait 1", counting(0, 1, 20), 3, 3, 22);
        window("SINGLE, wait 20", counting(0, 20, 20), 22, 22, 22);
        window("SINGLE, wait 31", counting(0, 31, 31), 33, 33, 33);
    }

    /** "for DOUBLE that and the next one": the next one too when the next order has been read. */
    private static void doubleWindow() {
        window("DOUBLE, wait 0", counting(1, 0, 20), 2, 3, 22);
        window("DOUBLE, wait 18", counting(1, 18, 20), 20, 21, 22);
        window("DOUBLE, wait 19", counting(1, 19, 20), 21, 22, 22);
        window("DOUBLE, wait 20", counting(1, 20, 20), 22, 23, 22);
        window("DOUBLE, wait 31", counting(1, 31, 31), 33, 34, 33);
    }

    /** "for LONG all up to m + 2 + GAP". */
    private static void longWindow() {
        window("LONG, of 32 cycles", counting(2, 0, 31), 2, 33, 33);
        window("LONG, of two cycles", counting(2, 19, 20), 21, 22, 22);
        window("LONG, of one cycle", counting(2, 20, 20), 22, 22, 22);
        window("LONG, timing below wait", counting(2, 21, 20), 23, 54, 54);
        window("LONG, timing 0, wait 31", counting(2, 31, 0), 33, 34, 34);
        window("LONG, timing 30, wait 31", counting(2, 31, 30), 33, 64, 64);
    }

    /** "3 as 0". */
    private static void kindThreeIsSingle() {
        window("kind 3, wait 0", counting(3, 0, 31), 2, 2, 33);
        window("kind 3, wait 20", counting(3, 20, 20), 22, 22, 22);
        window("kind 3, timing below wait", counting(3, 20, 19), 22, 22, 53);
    }

    /** "GAP, its TIMING, and 32 more if that is less than its WAIT". */
    private static void gapAtWaitAndBelow() {
        window("timing above wait", counting(0, 9, 10), 11, 11, 12);
        window("timing as wait", counting(0, 10, 10), 12, 12, 12);
        window("timing one below wait", counting(0, 11, 10), 13, 13, 44);
        window("timing 0, wait 0", counting(0, 0, 0), 2, 2, 2);
        window("timing 0, wait 1", counting(0, 1, 0), 3, 3, 34);
        window("timing 0, wait 31", counting(0, 31, 0), 33, 33, 34);
        window("timing 30, wait 31", counting(0, 31, 30), 33, 33, 64);
        window("timing 31, wait 31", counting(0, 31, 31), 33, 33, 33);
        window("timing 31, wait 0", counting(0, 0, 31), 2, 2, 33);
    }

    private static void everyWaitAndTiming() {
        for (int wait = 0; wait < 32; wait++) {
            for (int timing = 0; timing < 32; timing++) {
                int kind = (wait + timing) % 4;
                int gap = timing >= wait ? timing : timing + 32;
                int last = kind == 2 ? 2 + gap : kind == 1 ? 3 + wait : 2 + wait;
                String name = "kind " + kind + ", wait " + wait + ", timing " + timing;
                window(name, counting(kind, wait, timing), 2 + wait, last, 2 + gap);
            }
        }
    }

    /** "the word of the source, as it is at the beginning of the cycle, is moved to the destination". */
    private static void movedAtTheEndOfTheCycle() {
        DelayMachine x = new DelayMachine();
        x.word(6, 0, (short) 5);
        x.order(0, 0, Orders.twice(Orders.A, Orders.ADD, 0, 31));
        x.start(0, 0);
        x.run(2);
        DUE.is("before the window", x.peek(6, 0), 5);
        x.word(6, 0, (short) 6);
        x.run(1);
        DUE.is("A is added as it was at the beginning", x.peek(6, 0), 12);
        x.run(1);
        DUE.is("A is added as it is in the second cycle", x.peek(6, 0), 24);
        x.run(1);
        DUE.is("behind the window", x.peek(6, 0), 24);
    }

    /** Answers the cycle at which the second order is read; the first one is read at cycle 0 and sees the word in A. */
    private static int secondRead(int order, int word) {
        DelayMachine x = new DelayMachine();
        x.order(0, 0, order + LINE_ONE);
        x.word(6, 0, (short) word);
        x.start(0, 0);
        for (int i = 0; i < 80 && x.look(5) < 2; i++) {
            x.run(1);
        }
        DUE.is("the second order's line", x.look(3), 1);
        DUE.is("the second order's place", x.look(4), (x.look(2) - 1) % 32);
        return x.look(2) - 1;
    }

    /** "at the cycle m + 2 + GAP, or one later if it DISCRIMINATED". */
    private static void oneLaterIfItDiscriminated() {
        int[][] cases = {{0, 1, 3}, {0, 5, 7}, {0, 31, 33}, {4, 5, 7}, {6, 5, 39}, {31, 0, 34}, {31, 30, 64}};
        for (int[] c : cases) {
            int order = Orders.single(Orders.A, Orders.NOT_ZERO, c[0], c[1]);
            DUE.is("wait " + c[0] + ", timing " + c[1] + ", it did not", secondRead(order, 0), c[2]);
            DUE.is("wait " + c[0] + ", timing " + c[1] + ", it did", secondRead(order, 1), c[2] + 1);
        }
    }

    private static void laterGoesRound() {
        DelayMachine x = new DelayMachine();
        x.order(0, 0, Orders.single(1, Orders.NOT_ZERO, 0, 29));
        x.start(0, 0);
        x.run(32);
        DUE.is("place 31 is not read", x.look(5), 1);
        x.run(1);
        DUE.is("place 0 is read", x.look(4), 0);
        DUE.is("place 0 is read in the same line", x.look(3), 0);
        DUE.is("place 0 is the second one", x.look(5), 2);
    }

    private static void oneLaterOnlyOnce() {
        DUE.is("DOUBLE", secondRead(Orders.twice(Orders.A, Orders.NOT_ZERO, 0, 5), 1), 8);
        DUE.is("DOUBLE, at the read too", secondRead(Orders.twice(Orders.A, Orders.NOT_ZERO, 4, 5), 1), 8);
        DUE.is("LONG", secondRead(Orders.all(Orders.A, Orders.NOT_ZERO, 0, 5), 1), 8);
        DUE.is("LONG below 0", secondRead(Orders.all(Orders.A, Orders.BELOW_ZERO, 0, 31), -1), 34);
    }

    /** The word of line 2 that is not 0 is seen in the given cycle alone, by a LONG window of the cycles 2 to 7. */
    private static int secondReadIfSeenAt(int cycle) {
        DelayMachine x = new DelayMachine();
        x.order(0, 0, Orders.all(2, Orders.NOT_ZERO, 0, 5));
        x.word(2, cycle, (short) 3);
        x.start(0, 0);
        x.run(8);
        return x.look(5) == 2 ? 7 : 8;
    }

    /** "for later reads of the next order; if that has been read or is read in this cycle, nothing". */
    private static void discriminatesInTime() {
        DUE.is("seen before the window", secondReadIfSeenAt(1), 7);
        DUE.is("seen in the first cycle", secondReadIfSeenAt(2), 8);
        DUE.is("seen in the cycle before the read", secondReadIfSeenAt(6), 8);
        DUE.is("seen in the cycle of the read", secondReadIfSeenAt(7), 7);
        DUE.is("seen behind it", secondReadIfSeenAt(8), 7);
        int single = Orders.single(Orders.A, Orders.BELOW_ZERO, 5, 5);
        DUE.is("below 0 in the cycle of the read", secondRead(single, -1), 7);
        DUE.is("GAP 0", secondRead(Orders.single(Orders.A, Orders.NOT_ZERO, 0, 0), 1), 2);
        DUE.is("GAP 31", secondRead(Orders.single(Orders.A, Orders.NOT_ZERO, 31, 31), 1), 33);
    }

    /** A DOUBLE window whose second cycle comes when the next order has been read: no read is later. */
    private static void discriminatesTooLate() {
        int[] destinations = {Orders.BELOW_ZERO, Orders.NOT_ZERO};
        for (int destination : destinations) {
            DelayMachine x = new DelayMachine();
            x.order(0, 0, Orders.twice(11, destination, 5, 5));
            x.order(0, 7, Orders.single(0, 0, 0, 4));
            x.start(0, 0);
            x.run(8);
            DUE.is("the next order is read at cycle 7", x.look(4), 7);
            x.run(5);
            DUE.is("not before cycle 13", x.look(5), 2);
            x.run(1);
            DUE.is("the one after it is read at cycle 13", x.look(4), 13);
            DUE.is("it is the third", x.look(5), 3);
        }
    }

    private static void eachOrderDiscriminatesForItself() {
        DelayMachine x = new DelayMachine();
        x.order(0, 0, Orders.single(1, Orders.NOT_ZERO, 0, 5));
        x.order(0, 8, Orders.single(0, Orders.NOT_ZERO, 0, 5));
        x.order(0, 15, Orders.single(11, Orders.BELOW_ZERO, 0, 5));
        x.order(0, 23, Orders.stop());
        x.start(0, 0);
        DUE.is("until the stop", x.run(100), 26);
        DUE.is("orders", x.look(5), 4);
    }

    /** What an order has discriminated is not for the first order after a start, nor for the one behind that. */
    private static void startForgetsDiscrimination() {
        DelayMachine x = new DelayMachine();
        x.order(0, 0, Orders.single(1, Orders.NOT_ZERO, 0, 20));
        x.order(1, 8, Orders.single(0, 0, 0, 4));
        x.order(0, 14, Orders.stop());
        x.start(0, 0);
        x.run(5);
        x.start(1, 8);
        DUE.is("until the stop, after a start", x.run(100), 12);
        DUE.is("orders, after a start", x.look(5), 2);
    }

    /** "11: it discriminates if the word is below 0". */
    private static void belowZero() {
        int[][] cases = {{-32768, 8}, {-1, 8}, {0, 7}, {1, 7}, {32767, 7}};
        for (int[] c : cases) {
            DUE.is("below 0: " + c[0], secondRead(Orders.single(Orders.A, Orders.BELOW_ZERO, 0, 5), c[0]), c[1]);
        }
    }

    /** "12: if it is not 0". */
    private static void notZero() {
        int[][] cases = {{-32768, 8}, {-1, 8}, {0, 7}, {1, 8}, {32767, 8}};
        for (int[] c : cases) {
            DUE.is("not 0: " + c[0], secondRead(Orders.single(Orders.A, Orders.NOT_ZERO, 0, 5), c[0]), c[1]);
        }
    }
}
