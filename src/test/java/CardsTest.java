/** Promises 4 card and 10 punched, the READER and the PUNCH with their faults. */
public final class CardsTest {
    private static final Due DUE = new Due();
    private static final int FED = 2;
    /** Leads to itself, in line 1. */
    private static final int IDLE = Orders.order(0, 0, 0, 0, 30, 1);

    public static void main(String[] args) {
        deck();
        tooFewRows();
        missed();
        oneCycleIsEnough();
        missedLater();
        wholeCard();
        fedAgain();
        twoFaults();
        startForgetsCard();
        punching();
        punchTooSoon();
        punchFull();
        DUE.end();
    }

    private static DelayMachine withRows(int rows) {
        DelayMachine x = new DelayMachine();
        for (int i = 0; i < rows; i++) {
            x.card((short) (100 + i));
        }
        return x;
    }

    /** A card is fed in cycle 2; the next order is read at cycle 33, in place 1. */
    private static DelayMachine feeding(int rows) {
        DelayMachine x = withRows(rows);
        x.order(0, 0, Orders.single(0, Orders.FEED, 0, 31));
        x.start(0, 0);
        return x;
    }

    private static void deck() {
        DelayMachine x = new DelayMachine();
        for (int i = 0; i < 48; i++) {
            DUE.is("left", x.look(6), i);
            DUE.is("card " + i, x.card((short) i), true);
        }
        DUE.is("the 49th row", x.card((short) 1), false);
        DUE.is("48 are left", x.look(6), 48);
        x.order(0, 0, Orders.single(0, Orders.FEED, 0, 31));
        x.start(0, 0);
        x.run(FED);
        DUE.is("not fed yet", x.look(6), 48);
        x.run(1);
        DUE.is("fed", x.look(6), 36);
        DUE.is("48 have come all the same", x.card((short) 1), false);
    }

    private static void tooFewRows() {
        DelayMachine x = feeding(11);
        DUE.is("11 rows: until the fault", x.run(100), 3);
        DUE.is("11 rows: fault", x.look(1), 2);
        DUE.is("11 rows: stopped", x.look(0), 0);
        DUE.is("11 rows: left", x.look(6), 11);
        x.card((short) 9);
        x.start(0, 0);
        x.run(40);
        DUE.is("12 rows: fault", x.look(1), 0);
        DUE.is("12 rows: left", x.look(6), 0);
    }

    private static void missed() {
        DelayMachine x = feeding(12);
        DUE.is("row 0 is missed", x.run(2000), FED + 43);
        DUE.is("missed: fault", x.look(1), 1);
        DUE.is("missed: stopped", x.look(0), 0);
        DelayMachine y = feeding(12);
        y.order(0, 1, Orders.single(0, Orders.STOP, 9, 9));
        DUE.is("stopped in the same cycle", y.run(2000), FED + 43);
        DUE.is("stopped in the same cycle: fault", y.look(1), 1);
        DelayMachine z = feeding(12);
        z.order(0, 1, Orders.single(0, Orders.STOP, 8, 8));
        DUE.is("stopped a cycle before", z.run(2000), FED + 42);
        DUE.is("stopped a cycle before: fault", z.look(1), 0);
    }

    /** Row 0 can be read in the cycles 42, 43, 44; the order in place 1 has its window from cycle 35 + wait. */
    private static void oneCycleIsEnough() {
        for (int cycle = 41; cycle <= 45; cycle++) {
            DelayMachine x = feeding(12);
            x.order(0, 1, Orders.single(Orders.ROW, 5, cycle - 35, 31));
            x.word(5, cycle % 32, (short) -5);
            x.run(45);
            boolean inTime = cycle >= 42 && cycle <= 44;
            DUE.is("read at " + cycle + ": fault", x.look(1), inTime ? 0 : 1);
            DUE.is("read at " + cycle, x.peek(5, cycle % 32), inTime ? 100 : cycle == 41 ? 0 : -5);
            x.run(100);
            DUE.is("read at " + cycle + ": fault then", x.look(1), 1);
            DUE.is("read at " + cycle + ": NOW", x.look(2), inTime ? 53 : 45);
        }
    }

    private static void missedLater() {
        DelayMachine x = feeding(12);
        x.order(0, 1, Orders.all(Orders.ROW, Orders.NOTHING, 7, 17));
        DUE.is("the LONG window ends before row 2", x.run(2000), FED + 59);
        DUE.is("row 2 is missed", x.look(1), 1);
    }

    /** Windows 35 .. 66, 68 .. 99 and 101 .. 130 move all twelve rows, to nothing or to a line. */
    private static DelayMachine readsCard(int rows, int destination) {
        DelayMachine x = feeding(rows);
        x.order(0, 1, Orders.all(Orders.ROW, destination, 0, 31));
        x.order(0, 2, Orders.all(Orders.ROW, destination, 0, 31));
        x.order(0, 3, Orders.order(Orders.ROW, destination, 2, 0, 29, 1));
        x.order(1, 2, IDLE);
        return x;
    }

    private static void wholeCard() {
        DelayMachine x = readsCard(12, 4);
        int[] ends = {66, 99, 130};
        int[] begins = {35, 68, 101};
        for (int part = 0; part < 3; part++) {
            x.run(ends[part] + 1 - x.look(2));
            for (int t = begins[part]; t <= ends[part]; t++) {
                int offset = t - FED - 40;
                boolean row = offset >= 0 && offset % 8 <= 2;
                DUE.is("the row at " + t, x.peek(4, t % 32), row ? 100 + offset / 8 : 0);
            }
        }
        DUE.is("all were read", x.run(100), 100);
        DUE.is("no fault", x.look(1), 0);
        DelayMachine y = readsCard(12, Orders.NOTHING);
        DUE.is("to nothing", y.run(300), 300);
        DUE.is("to nothing: no fault", y.look(1), 0);
        DelayMachine z = readsCard(12, Orders.NOTHING);
        z.order(0, 3, Orders.order(Orders.ROW, 0, 2, 0, 28, 1));
        DUE.is("row 11 is missed", z.run(300), FED + 131);
        DUE.is("row 11 is missed: fault", z.look(1), 1);
    }

    private static void fedAgain() {
        DelayMachine x = readsCard(24, Orders.NOTHING);
        x.order(1, 2, Orders.single(0, Orders.FEED, 0, 31));
        DUE.is("fed in the last cycle of row 11", x.run(300), FED + 131);
        DUE.is("fed in the last cycle of row 11: fault", x.look(1), 2);
        DUE.is("fed in the last cycle of row 11: left", x.look(6), 12);
        DelayMachine y = readsCard(24, Orders.NOTHING);
        y.order(1, 2, Orders.order(0, Orders.FEED, 0, 1, 31, 1));
        y.order(1, 3, IDLE);
        y.run(FED + 132);
        DUE.is("fed a cycle later: fault", y.look(1), 0);
        DUE.is("fed a cycle later: left", y.look(6), 0);
        DUE.is("the second card's row 0 is missed", y.run(300), 42);
        DUE.is("the second card's fault", y.look(1), 1);
        DelayMachine z = feeding(48);
        z.order(0, 0, Orders.twice(0, Orders.FEED, 0, 31));
        DUE.is("fed twice", z.run(300), FED + 2);
        DUE.is("fed twice: fault", z.look(1), 2);
        DUE.is("fed twice: left", z.look(6), 36);
        secondCard();
    }

    private static void secondCard() {
        DelayMachine x = readsCard(24, Orders.NOTHING);
        x.order(1, 2, Orders.single(0, Orders.FEED, 1, 31));
        x.run(FED + 132);
        x.order(0, 3, Orders.all(Orders.ROW, 5, 0, 31));
        x.run(50);
        DUE.is("the second card's row 0", x.peek(5, (133 + 40) % 32), 112);
        DUE.is("the second card's row 1", x.peek(5, (133 + 48) % 32), 113);
    }

    private static void twoFaults() {
        DelayMachine x = feeding(48);
        x.order(0, 1, Orders.single(0, Orders.FEED, 9, 9));
        DUE.is("fed when row 0 is missed", x.run(300), FED + 43);
        DUE.is("the first fault counts", x.look(1), 2);
        DelayMachine y = feeding(48);
        y.order(0, 1, Orders.twice(Orders.A, Orders.PUNCH, 8, 9));
        DUE.is("punched too soon when row 0 is missed", y.run(300), FED + 43);
        DUE.is("the punch's fault counts", y.look(1), 3);
    }

    private static void startForgetsCard() {
        DelayMachine x = feeding(24);
        x.run(10);
        x.order(1, 0, IDLE);
        x.start(1, 0);
        DUE.is("no row is missed", x.run(300), 300);
        DUE.is("its rows are gone", x.look(6), 12);
        startWithinRow();
        DelayMachine y = feeding(24);
        y.run(10);
        y.start(0, 0);
        y.run(30);
        DUE.is("it can be fed again", y.look(1), 0);
        DUE.is("the next card", y.look(6), 0);
        y.order(0, 1, Orders.all(Orders.ROW, 5, 0, 31));
        y.word(5, 67 % 32, (short) -5);
        y.run(30);
        DUE.is("in a cycle of the old card", y.peek(5, 67 % 32), 0);
        y.run(5);
        DUE.is("the new card's row 0", y.peek(5, 74 % 32), 112);
    }

    /** A start between the cycles of a row that was moved: the next card's row 0 can be missed all the same. */
    private static void startWithinRow() {
        DelayMachine x = feeding(24);
        x.order(0, 1, Orders.single(Orders.ROW, 0, 7, 31));
        x.run(43);
        x.order(0, 1, Orders.single(0, 0, 0, 31));
        x.start(0, 0);
        DUE.is("row 0 of the second card is missed", x.run(200), 21 + FED + 43);
        DUE.is("row 0 of the second card: fault", x.look(1), 1);
    }

    private static void punching() {
        DelayMachine x = new DelayMachine();
        x.word(2, 2, (short) -77);
        x.word(2, 8, (short) 32767);
        x.order(0, 0, Orders.single(2, Orders.PUNCH, 0, 4));
        x.order(0, 6, Orders.single(2, Orders.PUNCH, 0, 31));
        x.start(0, 0);
        x.run(FED);
        DUE.is("none is punched", x.look(7), 0);
        x.run(1);
        DUE.is("one is punched", x.look(7), 1);
        x.run(6);
        DUE.is("six cycles after", x.look(7), 2);
        DUE.is("no fault", x.look(1), 0);
        int[][] rows = {{-1, 0}, {0, -77}, {1, 32767}, {2, 0}, {59, 0}, {60, 0}, {Integer.MIN_VALUE, 0},
            {Integer.MAX_VALUE, 0}};
        for (int[] row : rows) {
            DUE.is("punched(" + row[0] + ")", x.punched(row[0]), row[1]);
        }
    }

    private static void punchTooSoon() {
        DelayMachine x = new DelayMachine();
        x.order(0, 0, Orders.single(1, Orders.PUNCH, 0, 3));
        x.order(0, 5, Orders.single(1, Orders.PUNCH, 0, 31));
        x.start(0, 0);
        DUE.is("five cycles after", x.run(100), 8);
        DUE.is("five cycles after: fault", x.look(1), 3);
        DUE.is("five cycles after: stopped", x.look(0), 0);
        DUE.is("one is punched", x.look(7), 1);
        DUE.is("nothing is punched then", x.punched(1), 0);
        acrossStart(9, 3);
        acrossStart(10, 0);
    }

    /** A start changes nothing about when the last row was punched: here in cycle 6. */
    private static void acrossStart(int place, int fault) {
        DelayMachine x = new DelayMachine();
        x.order(0, 4, Orders.single(1, Orders.PUNCH, 0, 31));
        x.order(1, place, Orders.single(1, Orders.PUNCH, 0, 31));
        x.start(0, 4);
        x.run(7);
        x.start(1, place);
        x.run(10);
        DUE.is("punched in cycle 6 and " + (place + 2), x.look(1), fault);
    }

    private static void punchFull() {
        DelayMachine x = new DelayMachine();
        x.order(0, 0, Orders.single(Orders.CYCLE, Orders.PUNCH, 0, 30));
        x.start(0, 0);
        x.run(1900);
        DUE.is("60 are punched", x.look(7), 60);
        DUE.is("60 are punched: no fault", x.look(1), 0);
        DUE.is("the 61st", x.run(200), 23);
        DUE.is("the 61st: fault", x.look(1), 3);
        DUE.is("the 61st: punched", x.look(7), 60);
        for (int i = 0; i < 60; i++) {
            DUE.is("punched(" + i + ")", x.punched(i), 32 * i + 2);
        }
        DUE.is("punched(60)", x.punched(60), 0);
        x.start(0, 0);
        DUE.is("after a start: punched", x.look(7), 60);
        x.run(100);
        DUE.is("after a start: fault", x.look(1), 3);
    }
}
