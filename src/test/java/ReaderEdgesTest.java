/**
 * The edges under READER. A card is fed in cycle 2 by the order in place 0 of line 0, so that row i can be read in the
 * cycles 42 + 8 * i to 44 + 8 * i; the orders of line 1 read it.
 */
public final class ReaderEdgesTest {
    private static final Due DUE = new Due();
    private static final int FED = 2;
    private static final int FIRST = FED + 40;
    private static final int LINE_ONE = 1 << 20;

    public static void main(String[] args) {
        rowsInTheirThreeCycles(0);
        rowsInTheirThreeCycles(31);
        oneOfThreeCyclesIsEnough();
        eachRowCanBeMissed();
        toWhateverDestination();
        stoppedByTheRowItself();
        stoppedBeforeTheRowIsMissed();
        discriminatesByARow();
        lessThanTwelveRows();
        eachCardHasTheNextRows();
        rowsThatComeLater();
        fedAtOnceAgain();
        fedWhileItWaits();
        fedWhileItReads();
        fedBehindItsLastCycle();
        startForgetsTheCard();
        DUE.end();
    }

    private static DelayMachine withRows(int rows) {
        DelayMachine x = new DelayMachine();
        for (int i = 0; i < rows; i++) {
            x.card((short) (100 + i));
        }
        return x;
    }

    /** "row i in the cycles c + 40 + 8 * i to c + 42 + 8 * i, as source 13 (which is 0 else)": LONG windows see all. */
    private static void rowsInTheirThreeCycles(int timing) {
        DelayMachine x = withRows(12);
        for (int place = 0; place < 32; place++) {
            x.word(4, place, (short) -5);
        }
        x.order(0, 0, Orders.single(0, Orders.FEED, 0, timing) + LINE_ONE);
        for (int i = 0; i < 4; i++) {
            x.order(1, (2 + timing + i) % 32, Orders.all(Orders.ROW, 4, 0, 31) + LINE_ONE);
        }
        x.start(0, 0);
        for (int i = 0; i < 4; i++) {
            int begin = 4 + timing + 33 * i;
            x.run(begin + 32 - x.look(2));
            for (int cycle = begin; cycle < begin + 32; cycle++) {
                int offset = cycle - FIRST;
                boolean row = offset >= 0 && offset <= 90 && offset % 8 <= 2;
                DUE.is("the row in cycle " + cycle, x.peek(4, cycle % 32), row ? 100 + offset / 8 : 0);
            }
        }
        DUE.is("no fault", x.look(1), 0);
    }

    private static int reading(int destination) {
        return Orders.single(Orders.ROW, destination, 0, 6) + LINE_ONE;
    }

    private static void putPulses(DelayMachine x, int d, int order) {
        for (int i = 0; i < 4; i++) {
            x.order(1, (24 + d + 8 * i) % 32, order);
        }
    }

    /** From cycle 24 + d on an order is read every 8 cycles, so that it moves d cycles behind a row's first cycle. */
    private static DelayMachine pulsing(int d, int rows, int order) {
        DelayMachine x = withRows(rows);
        x.order(0, 0, Orders.single(0, Orders.FEED, 0, 22 + d) + LINE_ONE);
        putPulses(x, d, order);
        x.start(0, 0);
        return x;
    }

    private static void until(DelayMachine x, int now) {
        x.run(now - x.look(2));
    }

    /** "A row that was not moved in one of these cycles is MISSED". */
    private static void oneOfThreeCyclesIsEnough() {
        for (int d = 0; d < 8; d++) {
            DelayMachine x = pulsing(d, 12, reading(5));
            DUE.is("moved " + d + " cycles behind: cycles", x.run(300), d <= 2 ? 300 : FIRST + 3);
            DUE.is("moved " + d + " cycles behind: fault", x.look(1), d <= 2 ? 0 : 1);
            DUE.is("moved " + d + " cycles behind: going", x.look(0), d <= 2 ? 1 : 0);
        }
    }

    /** "the machine is stopped by FAULT 1 at the end of the last of them". */
    private static void eachRowCanBeMissed() {
        for (int row = 0; row < 12; row++) {
            for (int d = 0; d < 3; d++) {
                DelayMachine x = pulsing(d, 12, reading(0));
                until(x, FIRST - 4 + 8 * row);
                putPulses(x, d, Orders.single(0, 0, 0, 6) + LINE_ONE);
                until(x, FIRST + 2 + 8 * row);
                DUE.is("row " + row + ": going before its last cycle", x.look(0), 1);
                DUE.is("row " + row + ": no fault before its last cycle", x.look(1), 0);
                DUE.is("row " + row + ": its last cycle", x.run(50), 1);
                DUE.is("row " + row + ": stopped", x.look(0), 0);
                DUE.is("row " + row + ": fault", x.look(1), 1);
                DUE.is("row " + row + ": left", x.look(6), 0);
            }
        }
    }

    /** "(to whatever destination, 0 too)": the rows are 0, so that no destination discriminates. */
    private static void toWhateverDestination() {
        int[] destinations = {0, 2, 3, 4, 5, 6, 7, 8, 9, 10, 11, 12, 13, 15};
        for (int destination : destinations) {
            DelayMachine x = new DelayMachine();
            for (int i = 0; i < 12; i++) {
                x.card((short) 0);
            }
            x.order(0, 0, Orders.single(0, Orders.FEED, 0, 22) + LINE_ONE);
            putPulses(x, 0, reading(destination));
            x.start(0, 0);
            DUE.is("to destination " + destination + ": cycles", x.run(150), 150);
            DUE.is("to destination " + destination + ": fault", x.look(1), 0);
        }
    }

    /** The order that is read first at cycle 40 + d, for row 0, is another one. */
    private static DelayMachine atRowZero(int d, int order) {
        DelayMachine x = pulsing(d, 12, Orders.single(0, 0, 0, 6) + LINE_ONE);
        x.order(1, 8 + d, order);
        return x;
    }

    private static void stoppedByTheRowItself() {
        for (int d = 0; d < 3; d++) {
            DelayMachine x = atRowZero(d, reading(Orders.STOP));
            DUE.is("the row to STOP: cycles", x.run(300), FIRST + d + 1);
            DUE.is("the row to STOP: fault", x.look(1), 0);
        }
    }

    private static void stoppedBeforeTheRowIsMissed() {
        for (int d = 0; d < 3; d++) {
            DelayMachine x = atRowZero(d, Orders.single(0, Orders.STOP, 0, 6));
            DUE.is("0 to STOP: cycles", x.run(300), FIRST + d + 1);
            DUE.is("0 to STOP: fault", x.look(1), d == 2 ? 1 : 0);
        }
    }

    /** A LONG window up to cycle 49 discriminates by row 0: the next read is later, the window is not longer. */
    private static void discriminatesByARow() {
        DelayMachine x = withRows(12);
        x.order(0, 0, Orders.single(0, Orders.FEED, 0, 31) + LINE_ONE);
        x.order(1, 1, Orders.all(Orders.ROW, Orders.NOT_ZERO, 0, 14));
        x.start(0, 0);
        until(x, FIRST + 8);
        DUE.is("discriminated by a row: no read in cycle 49", x.look(5), 2);
        x.run(1);
        DUE.is("discriminated by a row: a read in cycle 50", x.look(5), 3);
        DUE.is("discriminated by a row: row 1 is missed", x.run(300), 2);
        DUE.is("discriminated by a row: fault", x.look(1), 1);
    }

    private static void feedOnce(DelayMachine x) {
        x.order(0, 0, Orders.single(0, Orders.FEED, 0, 22) + LINE_ONE);
        x.start(0, 0);
        x.run((32 - x.look(2) % 32) % 32 + 3);
    }

    /** "If less than 12 rows are left, feeding is FAULT 2." */
    private static void lessThanTwelveRows() {
        int[] decks = {0, 1, 11, 12, 13, 23, 24, 25, 35, 36, 37, 47, 48};
        for (int deck : decks) {
            DelayMachine x = withRows(deck);
            for (int left = deck; left >= 12; left -= 12) {
                feedOnce(x);
                DUE.is("deck of " + deck + ", " + left + " left: fault", x.look(1), 0);
                DUE.is("deck of " + deck + ", " + left + " left: going", x.look(0), 1);
                DUE.is("deck of " + deck + ", " + left + " left: left", x.look(6), left - 12);
            }
            feedOnce(x);
            DUE.is("deck of " + deck + ": fault", x.look(1), 2);
            DUE.is("deck of " + deck + ": stopped", x.look(0), 0);
            DUE.is("deck of " + deck + ": stopped in that cycle", x.look(2) % 32, 3);
            DUE.is("deck of " + deck + ": left", x.look(6), deck % 12);
        }
    }

    /** "the next 12 rows of the deck": up to the last row of 48. */
    private static void eachCardHasTheNextRows() {
        for (int card = 0; card < 4; card++) {
            DelayMachine x = withRows(48);
            for (int i = 0; i < card; i++) {
                feedOnce(x);
            }
            putPulses(x, 0, reading(5));
            feedOnce(x);
            int begin = x.look(2) - 3;
            for (int row = 0; row < 12; row++) {
                until(x, begin + FIRST + 1 + 8 * row);
                int want = 100 + 12 * card + row;
                DUE.is("card " + card + ", row " + row, x.peek(5, (FIRST + 8 * row) % 32), want);
            }
            DUE.is("card " + card + ": fault", x.look(1), 0);
        }
    }

    private static void rowsThatComeLater() {
        DelayMachine x = pulsing(0, 12, reading(5));
        until(x, FIRST);
        DUE.is("a row comes while the card is read", x.card((short) 7), true);
        DUE.is("it is left in the deck", x.look(6), 1);
        until(x, FIRST + 8 * 11 + 1);
        DUE.is("row 11 is the card's", x.peek(5, (FIRST + 8 * 11) % 32), 111);
        DUE.is("it is left in the deck then", x.look(6), 1);
    }

    /** "or the reader reads a card (up to the last cycle of its row 11), feeding is FAULT 2". */
    private static void fedAtOnceAgain() {
        for (int kind = 1; kind <= 2; kind++) {
            DelayMachine x = withRows(48);
            x.order(0, 0, Orders.order(0, Orders.FEED, kind, 0, 31, 0));
            x.start(0, 0);
            DUE.is("fed in the next cycle: cycles", x.run(300), FED + 2);
            DUE.is("fed in the next cycle: fault", x.look(1), 2);
            DUE.is("fed in the next cycle: left", x.look(6), 36);
        }
    }

    private static void fedWhileItWaits() {
        for (int wait = 0; wait < 32; wait++) {
            DelayMachine x = withRows(48);
            x.order(0, 0, Orders.single(0, Orders.FEED, 0, 0) + LINE_ONE);
            x.order(1, 2, Orders.single(0, Orders.FEED, wait, 31));
            x.start(0, 0);
            DUE.is("fed in cycle " + (4 + wait) + ": cycles", x.run(300), 4 + wait + 1);
            DUE.is("fed in cycle " + (4 + wait) + ": fault", x.look(1), 2);
            DUE.is("fed in cycle " + (4 + wait) + ": left", x.look(6), 36);
        }
    }

    /** All rows are read in time, and behind the pulse before the given cycle comes an order that feeds in it. */
    private static DelayMachine fedAgainIn(int cycle) {
        DelayMachine x = pulsing(0, 24, reading(0));
        int pulse = (cycle - 4) / 8 * 8;
        until(x, pulse);
        x.order(1, pulse % 32, Orders.single(Orders.ROW, 0, 0, 0) + LINE_ONE);
        x.order(1, (pulse + 2) % 32, Orders.single(0, Orders.FEED, cycle - pulse - 4, 31) + LINE_ONE);
        until(x, cycle);
        DUE.is("not fed before cycle " + cycle, x.look(6), 12);
        DUE.is("going before cycle " + cycle, x.look(0), 1);
        x.run(1);
        return x;
    }

    private static void fedWhileItReads() {
        int last = FED + 130;
        for (int cycle = FIRST - 8; cycle <= last; cycle++) {
            DelayMachine x = fedAgainIn(cycle);
            DUE.is("fed in cycle " + cycle + ": fault", x.look(1), 2);
            DUE.is("fed in cycle " + cycle + ": stopped", x.look(0), 0);
            DUE.is("fed in cycle " + cycle + ": left", x.look(6), 12);
        }
    }

    private static void fedBehindItsLastCycle() {
        for (int cycle = FED + 131; cycle <= FED + 137; cycle++) {
            DelayMachine x = fedAgainIn(cycle);
            DUE.is("fed in cycle " + cycle + ": fault", x.look(1), 0);
            DUE.is("fed in cycle " + cycle + ": going", x.look(0), 1);
            DUE.is("fed in cycle " + cycle + ": left", x.look(6), 0);
            DUE.is("fed in cycle " + cycle + ": its row 0 is missed", x.run(300), 42);
            DUE.is("fed in cycle " + cycle + ": fault then", x.look(1), 1);
        }
    }

    /** "no card is fed" after start: in each part of a card, nothing is read or missed, and one can be fed at once. */
    private static void startForgetsTheCard() {
        int[] moments = {FED + 1, FIRST, FIRST + 1, FIRST + 2, FIRST + 3, FIRST + 8 * 11 + 1, FIRST + 8 * 11 + 2};
        for (int moment : moments) {
            DelayMachine x = pulsing(0, 24, reading(0));
            until(x, moment);
            x.order(1, 31, Orders.all(Orders.ROW, Orders.A, 0, 31));
            x.word(6, 0, (short) 9);
            x.start(1, 31);
            int read = moment + (63 - moment % 32) % 32;
            until(x, read + 2);
            DUE.is("started in " + moment + ": the row is not moved yet", x.peek(6, 0), 9);
            for (int i = 0; i < 32; i++) {
                x.run(1);
                DUE.is("started in " + moment + ": the row is 0", x.peek(6, 0), 0);
            }
            DUE.is("started in " + moment + ": no row is missed", x.look(1), 0);
            DUE.is("started in " + moment + ": 12 rows are gone", x.look(6), 12);
            feedOnce(x);
            DUE.is("started in " + moment + ": fed", x.look(6), 0);
            DUE.is("started in " + moment + ": no fault", x.look(1), 0);
        }
    }
}
