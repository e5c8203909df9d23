/**
 * "A call that is refused changes nothing." Two machines are brought to the same state, one of them gets the call that
 * is refused; then all that can be asked must be the same, and also what both do when they go on.
 */
public final class RefusedTest {
    private static final Due DUE = new Due();
    private static final int LEAST = Integer.MIN_VALUE;
    private static final int MOST = Integer.MAX_VALUE;
    private static final int LINE_ONE = 1 << 20;

    private interface State {
        void bring(DelayMachine x);
    }

    private interface Call {
        long on(DelayMachine x);
    }

    private static final State[] STATES = {
        x -> { }, RefusedTest::waitsForItsFirstOrder, RefusedTest::inALongWindow, RefusedTest::hasDiscriminated,
        RefusedTest::inADoubleWindow, RefusedTest::multiplies, RefusedTest::readsACard, RefusedTest::stoppedByAFault,
        RefusedTest::hasAProgram, RefusedTest::runsAProgram};

    public static void main(String[] args) {
        orders();
        words();
        cards();
        starts();
        runs();
        statements();
        statementsBeyondTwelve();
        assembles();
        asking();
        DUE.end();
    }

    private static void waitsForItsFirstOrder(DelayMachine x) {
        x.order(1, 20, Orders.single(1, Orders.ADD, 0, 9));
        x.start(1, 20);
        x.run(3);
    }

    private static void inALongWindow(DelayMachine x) {
        x.order(0, 0, Orders.all(1, Orders.ADD, 0, 31));
        x.start(0, 0);
        x.run(7);
    }

    private static void hasDiscriminated(DelayMachine x) {
        x.order(0, 0, Orders.single(1, Orders.NOT_ZERO, 0, 20) + LINE_ONE);
        x.order(1, 23, Orders.single(1, Orders.ADD, 0, 9));
        x.start(0, 0);
        x.run(5);
    }

    /** Its second cycle comes when the next order has been read. */
    private static void inADoubleWindow(DelayMachine x) {
        x.order(0, 0, Orders.twice(1, Orders.ADD, 4, 4));
        x.start(0, 0);
        x.run(7);
    }

    private static void multiplies(DelayMachine x) {
        x.word(7, 0, (short) 77);
        x.order(0, 0, Orders.single(11, Orders.MULTIPLY, 0, 31));
        x.start(0, 0);
        x.run(9);
    }

    /** Row 0 has been moved, and a row was punched just before. */
    private static void readsACard(DelayMachine x) {
        for (int i = 0; i < 30; i++) {
            x.card((short) (i + 1));
        }
        x.order(0, 0, Orders.single(1, Orders.FEED, 0, 31));
        x.order(0, 1, Orders.single(Orders.ROW, Orders.PUNCH, 7, 13));
        x.order(0, 16, Orders.single(Orders.ROW, Orders.PUNCH, 0, 31));
        x.start(0, 0);
        x.run(43);
    }

    private static void stoppedByAFault(DelayMachine x) {
        x.order(1, 0, Orders.twice(11, Orders.PUNCH, 0, 31));
        x.order(0, 0, Orders.single(1, Orders.ADD, 0, 31));
        x.start(1, 0);
        x.run(9);
    }

    private static void hasAProgram(DelayMachine x) {
        x.statement(0, 1, 2, 3, 0);
        x.statement(4, 3, 0, 0, 0);
        x.assemble();
        x.clear();
        x.statement(3, 4, 0, 0, 0);
        x.statement(6, 0, 0, 0, 0);
    }

    private static void runsAProgram(DelayMachine x) {
        x.statement(3, 1, 0, 0, 0);
        x.statement(0, 1, 2, 1, 0);
        x.statement(4, 1, 0, 0, 0);
        x.assemble();
        x.word(2, x.variable(1), (short) -4);
        x.word(2, x.variable(2), (short) 1);
        x.start(0, 0);
        x.run(60);
    }

    private static void refused(String name, Call call, long want) {
        for (int i = 0; i < STATES.length; i++) {
            refusedIn(STATES[i], name + " in state " + i, call, want);
        }
    }

    private static void refusedIn(State state, String name, Call call, long want) {
        DelayMachine x = new DelayMachine();
        DelayMachine y = new DelayMachine();
        state.bring(x);
        state.bring(y);
        DUE.is(name, call.on(x), want);
        sameAnswers(name, x, y);
        DelayMachine u = new DelayMachine();
        DelayMachine v = new DelayMachine();
        state.bring(u);
        state.bring(v);
        call.on(u);
        sameGoingOn(name, u, v);
    }

    private static void sameAnswers(String name, DelayMachine x, DelayMachine y) {
        for (int what = 0; what <= 8; what++) {
            DUE.is(name + ", then look(" + what + ")", x.look(what), y.look(what));
        }
        sameOrders(name, x, y);
        for (int line = 2; line <= 8; line++) {
            for (int place = 0; place < (line <= 5 ? 32 : line == 8 ? 2 : 1); place++) {
                DUE.is(name + ", then peek(" + line + ", " + place + ")", x.peek(line, place), y.peek(line, place));
            }
        }
        for (int i = 0; i < 60; i++) {
            DUE.is(name + ", then punched(" + i + ")", x.punched(i), y.punched(i));
        }
        samePlaces(name, x, y);
    }

    private static void sameOrders(String name, DelayMachine x, DelayMachine y) {
        for (int place = 0; place < 32; place++) {
            DUE.is(name + ", then read(0, " + place + ")", x.read(0, place), y.read(0, place));
            DUE.is(name + ", then read(1, " + place + ")", x.read(1, place), y.read(1, place));
        }
    }

    private static void samePlaces(String name, DelayMachine x, DelayMachine y) {
        for (int i = 0; i < 12; i++) {
            DUE.is(name + ", then placed(" + i + ")", x.placed(i), y.placed(i));
        }
        for (int v = 0; v < 16; v++) {
            DUE.is(name + ", then variable(" + v + ")", x.variable(v), y.variable(v));
        }
    }

    /** What cannot be asked shows when it goes on, takes a row and a statement more, and assembles. */
    private static void sameGoingOn(String name, DelayMachine x, DelayMachine y) {
        int[] asked = {0, 1, 2, 4, 5, 7};
        for (int i = 0; i < 24; i++) {
            DUE.is(name + ", then run(1)", x.run(1), y.run(1));
            for (int what : asked) {
                DUE.is(name + ", then cycle " + i + ", look(" + what + ")", x.look(what), y.look(what));
            }
            DUE.is(name + ", then A", x.peek(6, 0), y.peek(6, 0));
            DUE.is(name + ", then D", x.peek(8, 0), y.peek(8, 0));
        }
        DUE.is(name + ", then run(300)", x.run(300), y.run(300));
        DUE.is(name + ", then NOW", x.look(2), y.look(2));
        DUE.is(name + ", then A at the end", x.peek(6, 0), y.peek(6, 0));
        DUE.is(name + ", then card", x.card((short) 3), y.card((short) 3));
        DUE.is(name + ", then the deck", x.look(6), y.look(6));
        DUE.is(name + ", then statement", x.statement(3, 9, 0, 0, 0), y.statement(3, 9, 0, 0, 0));
        stop(x);
        stop(y);
        DUE.is(name + ", then assemble()", x.assemble(), y.assemble());
        sameOrders(name, x, y);
        samePlaces(name, x, y);
    }

    private static void stop(DelayMachine x) {
        x.order(0, 0, Orders.stop());
        x.start(0, 0);
        x.run(40);
    }

    /** Promise 2: "False if line is not 0 or 1, place not 0 .. 31, or order is not 0 .. 2097151." */
    private static void orders() {
        int[][] wrong = {{-1, 0, 5}, {2, 0, 5}, {0, -1, 5}, {0, 32, 5}, {1, -1, 5}, {1, 32, 5}, {0, 0, -1},
            {0, 0, 2097152}, {1, 31, -1}, {1, 31, 2097152}, {LEAST, 0, 5}, {MOST, 0, 5}, {0, LEAST, 5}, {0, MOST, 5},
            {0, 0, LEAST}, {0, 0, MOST}};
        for (int[] w : wrong) {
            refused("order(" + w[0] + ", " + w[1] + ", " + w[2] + ")", x -> x.order(w[0], w[1], w[2]) ? 1 : 0, 0);
        }
    }

    /** Promise 3: "False if there is no such place." */
    private static void words() {
        int[][] wrong = {{-1, 0}, {0, 0}, {1, 0}, {9, 0}, {2, -1}, {2, 32}, {3, 32}, {4, -1}, {5, -1}, {5, 32},
            {6, -1}, {6, 1}, {7, -1}, {7, 1}, {8, -1}, {8, 2}, {LEAST, 0}, {MOST, 0}, {2, LEAST}, {8, MOST}};
        for (int[] w : wrong) {
            refused("word(" + w[0] + ", " + w[1] + ")", x -> x.word(w[0], w[1], (short) -9) ? 1 : 0, 0);
        }
    }

    /** Promise 4: "False if 48 have come so far." */
    private static void cards() {
        Call card = x -> x.card((short) 99) ? 1 : 0;
        refusedIn(RefusedTest::hasAFullDeck, "card to 48 rows", card, 0);
        refusedIn(RefusedTest::readsOfAFullDeck, "card to 36 of 48 rows", card, 0);
    }

    private static void hasAFullDeck(DelayMachine x) {
        for (int i = 0; i < 48; i++) {
            x.card((short) i);
        }
    }

    private static void readsOfAFullDeck(DelayMachine x) {
        hasAFullDeck(x);
        x.order(0, 0, Orders.single(1, Orders.FEED, 0, 31));
        x.order(0, 1, Orders.all(Orders.ROW, Orders.ADD, 0, 31));
        x.start(0, 0);
        x.run(44);
    }

    /** Promise 5: "False if there is no such order." */
    private static void starts() {
        int[][] wrong = {{-1, 0}, {2, 0}, {0, -1}, {0, 32}, {1, -1}, {1, 32}, {LEAST, 0}, {MOST, 0}, {0, LEAST},
            {1, MOST}};
        for (int[] w : wrong) {
            refused("start(" + w[0] + ", " + w[1] + ")", x -> x.start(w[0], w[1]) ? 1 : 0, 0);
        }
    }

    /** Promise 6: "-1 if n is not 0 .. 2000; 0 if it is not going." */
    private static void runs() {
        int[] wrong = {-1, 2001, LEAST, MOST};
        for (int n : wrong) {
            refused("run(" + n + ")", x -> x.run(n), -1);
        }
        refused("run(0)", x -> x.run(0), 0);
        int[] cycles = {1, 2000};
        for (int n : cycles) {
            refusedIn(x -> { }, "new: run(" + n + ")", x -> x.run(n), 0);
            refusedIn(RefusedTest::stoppedByAFault, "stopped: run(" + n + ")", x -> x.run(n), 0);
        }
    }

    private static Call stating(int operation, int a, int b, int c, int go) {
        return x -> x.statement(operation, a, b, c, go);
    }

    /** Promise 11: "-1 if an operation, variable or GOTO (0 .. 11, for operation 4 alone) is none". */
    private static void statements() {
        refused("operation -1", stating(-1, 0, 0, 0, 0), -1);
        refused("operation 7", stating(7, 0, 0, 0, 0), -1);
        int[] none = {-1, 16};
        for (int v : none) {
            refused("a " + v, stating(0, v, 0, 0, 0), -1);
            refused("b " + v, stating(0, 0, v, 0, 0), -1);
            refused("c " + v, stating(0, 0, 0, v, 0), -1);
        }
        refused("GOTO -1", stating(4, 0, 0, 0, -1), -1);
        refused("GOTO 12", stating(4, 0, 0, 0, 12), -1);
    }

    private static void hasTwelveStatements(DelayMachine x) {
        for (int i = 0; i < 12; i++) {
            x.statement(3, i, 0, 0, 0);
        }
    }

    /** Promise 11: "-1 if there are 12". */
    private static void statementsBeyondTwelve() {
        for (int operation = 0; operation <= 6; operation++) {
            refusedIn(RefusedTest::hasTwelveStatements, "the 13th", stating(operation, 15, 15, 15, 0), -1);
        }
    }

    /** Promise 13: "-1, refused, if there are none, a GOTO leads to none, it does not fit, or the machine is going." */
    private static void assembles() {
        Call assemble = DelayMachine::assemble;
        refusedIn(x -> { }, "assemble() of a new object", assemble, -1);
        refusedIn(x -> { hasAProgram(x); x.clear(); }, "assemble() without statements", assemble, -1);
        refusedIn(x -> { hasAProgram(x); x.statement(4, 0, 0, 0, 3); }, "assemble() with GOTO 3 of 3", assemble, -1);
        refusedIn(RefusedTest::doesNotFit, "assemble() of what does not fit", assemble, -1);
        refusedIn(RefusedTest::runsAProgram, "assemble() while it is going", assemble, -1);
        refusedIn(x -> { hasAProgram(x); x.start(0, 9); }, "assemble() before the first cycle", assemble, -1);
    }

    private static void doesNotFit(DelayMachine x) {
        hasAProgram(x);
        x.clear();
        for (int i = 0; i < 30; i += 3) {
            x.statement(0, i % 16, (i + 1) % 16, (i + 2) % 16, 0);
        }
        x.statement(3, 14, 0, 0, 0);
        x.statement(4, 15, 0, 0, 0);
    }

    /** What only asks changes nothing, whether there is an answer or none. */
    private static void asking() {
        refused("look(-1)", x -> x.look(-1), -1);
        refused("look(9)", x -> x.look(9), -1);
        refused("peek(6, 1)", x -> x.peek(6, 1), 0);
        refused("peek(1, 0)", x -> x.peek(1, 0), 0);
        refused("read(0, 32)", x -> x.read(0, 32), -1);
        refused("read(2, 0)", x -> x.read(2, 0), -1);
        refused("punched(-1)", x -> x.punched(-1), 0);
        refused("punched(60)", x -> x.punched(60), 0);
        refused("placed(-1)", x -> x.placed(-1), -1);
        refused("placed(12)", x -> x.placed(12), -1);
        refused("variable(-1)", x -> x.variable(-1), -1);
        refused("variable(16)", x -> x.variable(16), -1);
        for (int i = 0; i < STATES.length; i++) {
            DelayMachine x = new DelayMachine();
            DelayMachine y = new DelayMachine();
            STATES[i].bring(x);
            STATES[i].bring(y);
            askAll(x);
            sameGoingOn("asked in state " + i, x, y);
        }
    }

    private static void askAll(DelayMachine x) {
        for (int what = 0; what <= 8; what++) {
            x.look(what);
        }
        for (int line = 0; line <= 8; line++) {
            x.read(line, 0);
            x.peek(line, 0);
        }
        x.punched(0);
        x.placed(0);
        x.variable(0);
    }
}
