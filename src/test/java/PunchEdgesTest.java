/** The edges under PUNCH. */
public final class PunchEdgesTest {
    private static final Due DUE = new Due();

    public static void main(String[] args) {
        atOnceAtFirst();
        cyclesAfterTheLastOne();
        eachKind();
        theLastOneCounts();
        aFaultPunchesNothing();
        aFaultIsNotTheLastOne();
        sixtyRows();
        lowestAndHighestWord();
        DUE.end();
    }

    /** The first row of all can be punched in any cycle. */
    private static void atOnceAtFirst() {
        for (int place = 0; place < 8; place++) {
            DelayMachine x = new DelayMachine();
            x.order(0, place, Orders.single(1, Orders.PUNCH, 0, 31));
            x.start(0, place);
            x.run(place + 2);
            DUE.is("before cycle " + (place + 2), x.look(7), 0);
            x.run(1);
            DUE.is("punched in cycle " + (place + 2), x.look(7), 1);
            DUE.is("punched in cycle " + (place + 2) + ": fault", x.look(1), 0);
        }
    }

    /** One row is punched in cycle 2, the next one so many cycles later. */
    private static DelayMachine punchedAgainAfter(int cycles) {
        DelayMachine x = new DelayMachine();
        x.word(2, 2, (short) 21);
        x.word(2, 2 + cycles, (short) 22);
        x.order(0, 0, Orders.single(2, Orders.PUNCH, 0, cycles - 2));
        x.order(0, cycles, Orders.single(2, Orders.PUNCH, 0, 31));
        x.start(0, 0);
        x.run(3 + cycles);
        return x;
    }

    /** "less than 6 cycles after the cycle of the last one, punching is FAULT 3". */
    private static void cyclesAfterTheLastOne() {
        for (int cycles = 2; cycles <= 12; cycles++) {
            DelayMachine x = punchedAgainAfter(cycles);
            boolean late = cycles >= 6;
            DUE.is(cycles + " cycles after: fault", x.look(1), late ? 0 : 3);
            DUE.is(cycles + " cycles after: going", x.look(0), late ? 1 : 0);
            DUE.is(cycles + " cycles after: NOW", x.look(2), 3 + cycles);
            DUE.is(cycles + " cycles after: punched", x.look(7), late ? 2 : 1);
            DUE.is(cycles + " cycles after: row 0", x.punched(0), 21);
            DUE.is(cycles + " cycles after: row 1", x.punched(1), late ? 22 : 0);
        }
    }

    /** DOUBLE and LONG punch a second row in the next cycle. */
    private static void eachKind() {
        for (int kind = 0; kind < 4; kind++) {
            boolean once = kind == 0 || kind == 3;
            DelayMachine x = new DelayMachine();
            x.order(0, 0, Orders.order(1, Orders.PUNCH, kind, 0, 20, 0));
            x.start(0, 0);
            DUE.is("kind " + kind + ": cycles", x.run(20), once ? 20 : 4);
            DUE.is("kind " + kind + ": fault", x.look(1), once ? 0 : 3);
            DUE.is("kind " + kind + ": punched", x.look(7), 1);
        }
    }

    /** Rows in the cycles 2, 8 and 13: the third is 11 cycles after the first, but 5 after the second. */
    private static void theLastOneCounts() {
        DelayMachine x = new DelayMachine();
        x.order(0, 0, Orders.single(1, Orders.PUNCH, 0, 4));
        x.order(0, 6, Orders.single(1, Orders.PUNCH, 0, 3));
        x.order(0, 11, Orders.single(1, Orders.PUNCH, 0, 31));
        x.start(0, 0);
        DUE.is("the third: cycles", x.run(100), 14);
        DUE.is("the third: fault", x.look(1), 3);
        DUE.is("the third: punched", x.look(7), 2);
    }

    private static void aFaultPunchesNothing() {
        DelayMachine x = punchedAgainAfter(5);
        DUE.is("punched", x.look(7), 1);
        x.start(1, 0);
        DUE.is("the fault is forgotten", x.look(1), 0);
        DUE.is("punched stays", x.look(7), 1);
        DUE.is("row 0 stays", x.punched(0), 21);
        DUE.is("there is no row 1", x.punched(1), 0);
    }

    /** "after the cycle of the last one": that in cycle 2, not the one that was refused in cycle 7. */
    private static void aFaultIsNotTheLastOne() {
        DelayMachine x = punchedAgainAfter(5);
        x.order(1, 8, Orders.single(1, Orders.PUNCH, 0, 31));
        x.start(1, 8);
        x.run(3);
        DUE.is("punched in cycle 10: fault", x.look(1), 0);
        DUE.is("punched in cycle 10", x.look(7), 2);
    }

    /** "or when 60 are punched": the 60th is, the 61st is not, although it is 32 cycles later. */
    private static void sixtyRows() {
        DelayMachine x = new DelayMachine();
        x.order(0, 0, Orders.single(Orders.CYCLE, Orders.PUNCH, 0, 30));
        x.start(0, 0);
        x.run(58 * 32 + 3);
        DUE.is("59 are punched", x.look(7), 59);
        DUE.is("there is no row 59 yet", x.punched(59), 0);
        x.run(32);
        DUE.is("60 are punched", x.look(7), 60);
        DUE.is("the 60th: fault", x.look(1), 0);
        DUE.is("row 59", x.punched(59), 59 * 32 + 2);
        DUE.is("the 61st: cycles", x.run(200), 32);
        DUE.is("the 61st: fault", x.look(1), 3);
        DUE.is("the 61st: stopped", x.look(0), 0);
        DUE.is("the 61st: punched", x.look(7), 60);
        DUE.is("the 61st: row 0", x.punched(0), 2);
        DUE.is("the 61st: row 59", x.punched(59), 59 * 32 + 2);
        DUE.is("the 61st: row 60", x.punched(60), 0);
        x.start(0, 0);
        DUE.is("after a start: 60 are punched", x.look(7), 60);
        x.run(200);
        DUE.is("after a start: fault", x.look(1), 3);
    }

    private static void lowestAndHighestWord() {
        int[] words = {-32768, -1, 0, 32767};
        for (int word : words) {
            DelayMachine x = new DelayMachine();
            x.word(6, 0, (short) word);
            x.order(0, 0, Orders.single(Orders.A, Orders.PUNCH, 0, 31));
            x.start(0, 0);
            x.run(3);
            DUE.is("punched(0)", x.punched(0), word);
            DUE.is("look(7) with " + word, x.look(7), 1);
        }
    }
}
