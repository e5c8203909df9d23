/** The edges under MULTIPLIER. It is started in cycle 2, so that it works in the cycles 3 to 18. */
public final class MultiplierEdgesTest {
    private static final Due DUE = new Due();

    public static void main(String[] args) {
        sixteenCycles();
        highestBitFirst();
        lowestBitLast();
        extremeProducts();
        doubledAsAnInt();
        takesBAsItIsThen();
        dBecomesZero();
        beginsAnewWhileItWorks();
        beginsAnewAtTheLastCycle();
        beginsWhenItRests();
        movedToDIsThereBefore();
        movedToDWhenItRests();
        startedByTheWordAtTheBeginning();
        restsAfterStart();
        worksInTheCycleOfTheStop();
        DUE.end();
    }

    private static DelayMachine started(int v, int b) {
        DelayMachine x = new DelayMachine();
        x.word(2, 2, (short) v);
        x.word(7, 0, (short) b);
        x.order(0, 0, Orders.single(2, Orders.MULTIPLY, 0, 3));
        x.order(0, 5, Orders.single(0, 0, 0, 31));
        x.start(0, 0);
        return x;
    }

    private static int product(DelayMachine x) {
        return x.peek(8, 1) * 65536 + Short.toUnsignedInt(x.peek(8, 0));
    }

    private static void setProduct(DelayMachine x, int product) {
        x.word(8, 0, (short) product);
        x.word(8, 1, (short) (product >> 16));
    }

    /** Goes on up to the given cycle, that one included. */
    private static void through(DelayMachine x, int cycle) {
        x.run(cycle + 1 - x.look(2));
    }

    /** "it works in the 16 cycles that follow": not in its own, and not in the 17th. */
    private static void sixteenCycles() {
        DelayMachine x = started(0, 0);
        through(x, 1);
        DUE.is("left before", x.look(8), 0);
        through(x, 2);
        DUE.is("left when it was started", x.look(8), 16);
        for (int step = 1; step <= 16; step++) {
            setProduct(x, 1);
            through(x, 2 + step);
            DUE.is("doubled in step " + step, product(x), 2);
            DUE.is("left after step " + step, x.look(8), 16 - step);
        }
        setProduct(x, 1);
        through(x, 19);
        DUE.is("not doubled in the 17th cycle", product(x), 1);
        DUE.is("left after the 17th cycle", x.look(8), 0);
    }

    /** "if the highest bit of v was set, B more; then v moves up by one bit": bit 15 counts in the first cycle. */
    private static void highestBitFirst() {
        DelayMachine x = started(-32768, 3);
        through(x, 2);
        DUE.is("nothing in the cycle of the start", product(x), 0);
        for (int step = 1; step <= 16; step++) {
            through(x, 2 + step);
            DUE.is("bit 15 after step " + step, product(x), 3 << (step - 1));
        }
        DelayMachine y = started(16384, 3);
        through(y, 3);
        DUE.is("bit 14 after step 1", product(y), 0);
        through(y, 4);
        DUE.is("bit 14 after step 2", product(y), 3);
    }

    /** Bit 0 counts in the 16th cycle. */
    private static void lowestBitLast() {
        DelayMachine x = started(1, 3);
        through(x, 17);
        DUE.is("bit 0 after step 15", product(x), 0);
        through(x, 18);
        DUE.is("bit 0 after step 16", product(x), 3);
        through(x, 30);
        DUE.is("bit 0 later", product(x), 3);
    }

    private static void extremeProducts() {
        int[][] cases = {{-1, -32768, 65535 * -32768}, {-1, 32767, 65535 * 32767}, {-32768, -32768, 32768 * -32768},
            {-32768, 32767, 32768 * 32767}, {32767, -32768, 32767 * -32768}, {32767, 32767, 32767 * 32767},
            {-1, -1, -65535}, {-1, 1, 65535}, {1, -1, -1}, {1, -32768, -32768}, {0, -32768, 0}, {-32768, 0, 0}};
        for (int[] c : cases) {
            DelayMachine x = started(c[0], c[1]);
            through(x, 18);
            DUE.is(c[0] + " times " + c[1], product(x), c[2]);
        }
    }

    /** Answers D after one step, with a word of B that is added if the start's word is below 0. */
    private static int afterOneStep(int product, int v, int b) {
        DelayMachine x = started(v, b);
        through(x, 2);
        setProduct(x, product);
        through(x, 3);
        return product(x);
    }

    /** "both words of D (word 1 the higher one, as an int) become 2 * D, and B more". */
    private static void doubledAsAnInt() {
        DUE.is("from word 0 to word 1", afterOneStep(32768, 0, 0), 65536);
        DUE.is("the last within word 0", afterOneStep(32767, 0, 0), 65534);
        DUE.is("word 1 alone", afterOneStep(65536, 0, 0), 131072);
        DUE.is("the highest int", afterOneStep(Integer.MAX_VALUE, 0, 0), -2);
        DUE.is("the lowest int", afterOneStep(Integer.MIN_VALUE, 0, 0), 0);
        DUE.is("-1", afterOneStep(-1, 0, 0), -2);
        DUE.is("-1073741824", afterOneStep(-1073741824, 0, 0), Integer.MIN_VALUE);
        DUE.is("1073741824", afterOneStep(1073741824, 0, 0), Integer.MIN_VALUE);
        DUE.is("B below 0 takes from word 1", afterOneStep(0, -1, -1), -1);
        DUE.is("the lowest B takes from word 1", afterOneStep(65536, -1, -32768), 131072 - 32768);
        DUE.is("B goes over to word 1", afterOneStep(32767, -1, 2), 65536);
        DUE.is("beyond the highest int", afterOneStep(1073741823, -1, 32767), Integer.MIN_VALUE + 32765);
        DUE.is("beyond the lowest int", afterOneStep(-1073741824, -1, -1), Integer.MAX_VALUE);
    }

    /** "B (as it is then)": what is moved to B in the cycle counts, what is moved a cycle later does not. */
    private static void takesBAsItIsThen() {
        int[][] cases = {{17, -1}, {18, -1}, {19, 4}};
        for (int[] c : cases) {
            DelayMachine x = started(1, 4);
            x.order(0, 5, Orders.single(11, Orders.B, c[0] - 7, 31));
            through(x, 20);
            DUE.is("B is moved in cycle " + c[0], product(x), c[1]);
        }
    }

    /** "When it starts, D becomes 0": both words, at the end of that cycle. */
    private static void dBecomesZero() {
        DelayMachine x = started(-1, 4);
        x.word(8, 0, (short) -5);
        x.word(8, 1, (short) 6);
        through(x, 1);
        DUE.is("word 0 before", x.peek(8, 0), -5);
        DUE.is("word 1 before", x.peek(8, 1), 6);
        through(x, 2);
        DUE.is("word 0", x.peek(8, 0), 0);
        DUE.is("word 1", x.peek(8, 1), 0);
    }

    /** It is started with 3 in the given cycle once more. */
    private static DelayMachine startedAgainAt(int cycle) {
        DelayMachine x = started(-1, 4);
        x.order(0, 5, Orders.single(3, Orders.MULTIPLY, cycle - 7, 31));
        x.word(3, cycle, (short) 3);
        through(x, cycle - 1);
        return x;
    }

    /** "Started while it works, it begins anew." */
    private static void beginsAnewWhileItWorks() {
        DelayMachine x = startedAgainAt(7);
        DUE.is("anew: left before", x.look(8), 12);
        DUE.is("anew: D before", product(x), 60);
        finishAnew(x, 7);
        DelayMachine y = started(-1, 4);
        y.order(0, 0, Orders.twice(2, Orders.MULTIPLY, 0, 3));
        y.word(2, 3, (short) 3);
        through(y, 2);
        DUE.is("anew in the next cycle: left before", y.look(8), 16);
        finishAnew(y, 3);
    }

    private static void finishAnew(DelayMachine x, int cycle) {
        through(x, cycle);
        DUE.is("anew: left", x.look(8), 16);
        DUE.is("anew: D", product(x), 0);
        through(x, cycle + 15);
        DUE.is("anew: one left", x.look(8), 1);
        DUE.is("anew: D with one left", product(x), 4);
        through(x, cycle + 16);
        DUE.is("anew: none left", x.look(8), 0);
        DUE.is("anew: product", product(x), 12);
        through(x, cycle + 17);
        DUE.is("anew: product later", product(x), 12);
    }

    private static void beginsAnewAtTheLastCycle() {
        DelayMachine x = startedAgainAt(18);
        DUE.is("at the last cycle: left before", x.look(8), 1);
        finishAnew(x, 18);
    }

    private static void beginsWhenItRests() {
        DelayMachine x = startedAgainAt(19);
        DUE.is("at rest: left before", x.look(8), 0);
        DUE.is("at rest: D before", product(x), 65535 * 4);
        finishAnew(x, 19);
    }

    /** "(What is moved to D in such a cycle is there before that.)": from the first to the last cycle of its work. */
    private static void movedToDIsThereBefore() {
        DelayMachine x = started(0, 0);
        x.order(0, 0, Orders.single(2, Orders.MULTIPLY, 0, 0));
        x.order(0, 2, Orders.all(1, Orders.D, 0, 31));
        through(x, 3);
        DUE.is("before it is moved", product(x), 0);
        through(x, 4);
        DUE.is("word 0, doubled in cycle 4", product(x), 2);
        through(x, 5);
        DUE.is("word 1, doubled with word 0", product(x), 2 * (65536 + 2));
        DelayMachine y = started(0, 0);
        y.order(0, 5, Orders.single(1, Orders.D, 11, 31));
        through(y, 18);
        DUE.is("word 0, doubled in the last cycle", product(y), 2);
    }

    private static void movedToDWhenItRests() {
        DelayMachine x = started(0, 0);
        x.order(0, 5, Orders.single(1, Orders.D, 12, 31));
        through(x, 25);
        DUE.is("word 1, behind the last cycle", product(x), 65536);
    }

    /** D is moved as it is at the beginning of the cycle: before the step, and before a start makes it 0. */
    private static void startedByTheWordAtTheBeginning() {
        DelayMachine x = started(-1, 4);
        x.order(0, 5, Orders.single(Orders.D, 5, 0, 31));
        through(x, 7);
        DUE.is("moved from D", x.peek(5, 7), 0);
        DelayMachine y = started(-1, 4);
        y.order(0, 5, Orders.single(Orders.D, 5, 1, 31));
        through(y, 8);
        DUE.is("moved from D, word 0", y.peek(5, 8), 124);
        DelayMachine z = new DelayMachine();
        z.word(8, 0, (short) 5);
        z.word(7, 0, (short) 7);
        z.order(0, 0, Orders.single(Orders.D, Orders.MULTIPLY, 0, 31));
        z.start(0, 0);
        through(z, 18);
        DUE.is("D's own word starts it", product(z), 35);
    }

    /** "The multiplier rests" after start, with 1 or 16 cycles left as with none. */
    private static void restsAfterStart() {
        int[][] cases = {{2, 16, 0}, {3, 15, 4}, {17, 1, 32767 * 4}, {18, 0, 65535 * 4}};
        for (int[] c : cases) {
            DelayMachine x = started(-1, 4);
            through(x, c[0]);
            DUE.is("left before the start", x.look(8), c[1]);
            DUE.is("a refused start", x.start(0, 32), false);
            DUE.is("left after a refused start", x.look(8), c[1]);
            x.start(1, 0);
            DUE.is("left after the start", x.look(8), 0);
            x.run(20);
            DUE.is("D stays after the start", product(x), c[2]);
        }
    }

    /** "A machine that is stopped does nothing from the next cycle on." */
    private static void worksInTheCycleOfTheStop() {
        DelayMachine x = started(-1, 4);
        x.order(0, 5, Orders.single(0, Orders.STOP, 0, 31));
        x.run(100);
        DUE.is("NOW", x.look(2), 8);
        DUE.is("five steps were made", product(x), 31 * 4);
        x.run(100);
        DUE.is("and no more", product(x), 31 * 4);
    }
}
