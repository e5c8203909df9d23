/** What comes first in a cycle, when two things fall into the same one, and what a machine that is stopped does. */
public final class CycleEdgesTest {
    private static final Due DUE = new Due();
    /** The last cycle of row 0 of a card that is fed in cycle 2. */
    private static final int LAST = 44;

    public static void main(String[] args) {
        readBeforeItStops();
        readBeforeAFault();
        movedBeforeTheMultiplierWorks();
        multiplierWorksBeforeAFaultIsFound();
        multiplierWorksAfterAFault();
        stopAndMissedRow();
        feedAndMissedRow();
        punchAndMissedRow();
        stoppedReadsNothing();
        stoppedMovesNothing();
        stoppedMissesNothing();
        faultStaysUntilStart();
        DUE.end();
    }

    /** "In a cycle an order is read first, if it is due; then the word is moved". */
    private static void readBeforeItStops() {
        DelayMachine x = new DelayMachine();
        x.order(0, 0, Orders.order(0, Orders.STOP, 0, 5, 5, 1));
        x.start(0, 0);
        DUE.is("stop in the cycle of a read: cycles", x.run(100), 8);
        DUE.is("stop in the cycle of a read: orders", x.look(5), 2);
        DUE.is("stop in the cycle of a read: line", x.look(3), 1);
        DUE.is("stop in the cycle of a read: place", x.look(4), 7);
        DelayMachine y = new DelayMachine();
        y.order(0, 0, Orders.order(0, Orders.STOP, 0, 5, 6, 1));
        y.start(0, 0);
        DUE.is("stop a cycle before: cycles", y.run(100), 8);
        DUE.is("stop a cycle before: orders", y.look(5), 1);
        DUE.is("stop a cycle before: place", y.look(4), 0);
    }

    private static void readBeforeAFault() {
        DelayMachine x = new DelayMachine();
        x.order(0, 0, Orders.order(0, Orders.FEED, 0, 5, 5, 1));
        x.start(0, 0);
        DUE.is("fault in the cycle of a read: cycles", x.run(100), 8);
        DUE.is("fault in the cycle of a read: fault", x.look(1), 2);
        DUE.is("fault in the cycle of a read: orders", x.look(5), 2);
        DUE.is("fault in the cycle of a read: place", x.look(4), 7);
    }

    /** "then the multiplier works": in cycle 7 it adds B as it was moved in that cycle, to D as it was. */
    private static void movedBeforeTheMultiplierWorks() {
        DelayMachine x = new DelayMachine();
        x.word(2, 2, (short) -1);
        x.order(0, 0, Orders.single(2, Orders.MULTIPLY, 0, 3));
        x.order(0, 5, Orders.single(1, Orders.B, 0, 31));
        x.start(0, 0);
        x.run(7);
        DUE.is("with B 0", x.peek(8, 0), 0);
        x.run(1);
        DUE.is("with B moved in this cycle", x.peek(8, 0), 1);
        x.run(1);
        DUE.is("a cycle later", x.peek(8, 0), 3);
    }

    private static DelayMachine feeding() {
        DelayMachine x = new DelayMachine();
        for (int i = 0; i < 48; i++) {
            x.card((short) 5);
        }
        x.order(0, 0, Orders.order(0, Orders.FEED, 0, 0, 31, 1));
        x.start(0, 0);
        return x;
    }

    /** "then a missed row is found": the multiplier, started in cycle 35, has worked nine times by the fault. */
    private static void multiplierWorksBeforeAFaultIsFound() {
        DelayMachine x = feeding();
        x.word(7, 0, (short) 1);
        x.order(1, 1, Orders.order(11, Orders.MULTIPLY, 0, 0, 31, 1));
        DUE.is("row 0 is missed", x.run(300), LAST + 1);
        DUE.is("row 0 is missed: fault", x.look(1), 1);
        DUE.is("row 0 is missed: D", x.peek(8, 0), 511);
        x.run(300);
        DUE.is("stopped: D", x.peek(8, 0), 511);
    }

    /** Started in cycle 2; a feed without a deck in cycle 6, or a second punch in cycle 7, stops the machine. */
    private static void multiplierWorksAfterAFault() {
        int[][] cases = {{Orders.FEED, 6, 2, 15}, {Orders.PUNCH, 7, 3, 31}};
        for (int[] c : cases) {
            DelayMachine x = new DelayMachine();
            x.word(7, 0, (short) 1);
            x.order(0, 0, Orders.single(11, Orders.MULTIPLY, 0, 2));
            x.order(0, 4, Orders.twice(0, c[0], 0, 31));
            x.start(0, 0);
            DUE.is("fault " + c[2] + ": cycles", x.run(100), c[1] + 1);
            DUE.is("fault " + c[2], x.look(1), c[2]);
            DUE.is("fault " + c[2] + ": D with the step of its cycle", x.peek(8, 0), c[3]);
        }
    }

    private static DelayMachine atTheLastCycle(int order) {
        DelayMachine x = feeding();
        x.order(1, 1, order);
        DUE.is("cycles", x.run(300), LAST + 1);
        DUE.is("stopped", x.look(0), 0);
        return x;
    }

    private static void stopAndMissedRow() {
        DUE.is("stop and missed row", atTheLastCycle(Orders.single(0, Orders.STOP, 9, 31)).look(1), 1);
        DUE.is("stop by the row", atTheLastCycle(Orders.single(Orders.ROW, Orders.STOP, 9, 31)).look(1), 0);
    }

    /** "of two faults in a cycle the first counts". */
    private static void feedAndMissedRow() {
        DelayMachine x = atTheLastCycle(Orders.single(0, Orders.FEED, 9, 31));
        DUE.is("feed and missed row", x.look(1), 2);
        DUE.is("feed and missed row: left", x.look(6), 36);
        DelayMachine y = atTheLastCycle(Orders.single(Orders.ROW, Orders.FEED, 9, 31));
        DUE.is("feed by the row", y.look(1), 2);
    }

    private static void punchAndMissedRow() {
        DelayMachine x = atTheLastCycle(Orders.twice(0, Orders.PUNCH, 8, 31));
        DUE.is("punch and missed row", x.look(1), 3);
        DUE.is("punch and missed row: punched", x.look(7), 1);
        DelayMachine y = atTheLastCycle(Orders.single(0, Orders.PUNCH, 9, 31));
        DUE.is("punched in time and missed row", y.look(1), 1);
        DUE.is("punched in time and missed row: punched", y.look(7), 1);
    }

    /** "A machine that is stopped does nothing from the next cycle on." */
    private static void stoppedReadsNothing() {
        DelayMachine x = new DelayMachine();
        x.order(0, 0, Orders.single(0, Orders.STOP, 0, 1));
        x.start(0, 0);
        x.run(100);
        DUE.is("stopped: orders", x.look(5), 1);
        DUE.is("stopped: run", x.run(100), 0);
        DUE.is("stopped: orders then", x.look(5), 1);
        DUE.is("stopped: NOW", x.look(2), 3);
    }

    /** A DOUBLE window is cut by the stop of a fault in its first cycle. */
    private static void stoppedMovesNothing() {
        DelayMachine x = new DelayMachine();
        x.order(0, 0, Orders.twice(0, Orders.FEED, 0, 31));
        x.start(0, 0);
        DUE.is("fault in the first of two cycles", x.run(100), 3);
        for (int i = 0; i < 12; i++) {
            x.card((short) 5);
        }
        DUE.is("the second one does not come", x.run(100), 0);
        DUE.is("nothing is fed", x.look(6), 12);
        DUE.is("the fault stays", x.look(1), 2);
    }

    private static void stoppedMissesNothing() {
        DelayMachine x = feeding();
        x.order(1, 1, Orders.single(0, Orders.STOP, 8, 31));
        DUE.is("stopped a cycle before the row is missed", x.run(300), LAST);
        DUE.is("it is not missed", x.look(1), 0);
        DUE.is("run", x.run(300), 0);
        DUE.is("it is not missed then", x.look(1), 0);
    }

    private static void faultStaysUntilStart() {
        DelayMachine x = atTheLastCycle(Orders.single(0, 0, 0, 31));
        x.run(5);
        x.word(6, 0, (short) 1);
        DUE.is("a refused start", x.start(2, 0), false);
        DUE.is("the fault stays", x.look(1), 1);
        DUE.is("it is stopped", x.look(0), 0);
        x.start(1, 0);
        DUE.is("a start forgets it", x.look(1), 0);
        DUE.is("it is going", x.look(0), 1);
    }
}
