/** Promises 11 statement, 12 clear, 13 assemble, 14 placed, 15 variable. */
public final class AssemblerTest {
    private static final Due DUE = new Due();
    private static final int LINE_ONE = 1 << 20;

    public static void main(String[] args) {
        statements();
        refusedStatements();
        clears();
        eachOperation();
        sharedVariable();
        fork();
        stopInTheMiddle();
        replaces();
        refused();
        gotoEdges();
        tours();
        runsLoop();
        readsRow();
        DUE.end();
    }

    private static void statements() {
        DelayMachine x = new DelayMachine();
        for (int i = 0; i < 12; i++) {
            DUE.is("statement " + i, x.statement(i % 7, 15 - i, i, 15, i % 7 == 4 ? 11 : 99), i);
        }
        DUE.is("the 13th", x.statement(6, 0, 0, 0, 0), -1);
    }

    private static void refusedStatements() {
        DelayMachine x = new DelayMachine();
        int[][] wrong = {{-1, 0, 0, 0, 0}, {7, 0, 0, 0, 0}, {Integer.MIN_VALUE, 0, 0, 0, 0}, {4, 0, 0, 0, -1},
            {4, 0, 0, 0, 12}, {4, 0, 0, 0, Integer.MAX_VALUE}};
        for (int[] w : wrong) {
            DUE.is("statement(" + w[0] + ", .., " + w[4] + ")", x.statement(w[0], w[1], w[2], w[3], w[4]), -1);
        }
        int[] none = {-1, 16, Integer.MIN_VALUE, Integer.MAX_VALUE};
        for (int operation = 0; operation < 7; operation++) {
            for (int v : none) {
                DUE.is("operation " + operation + ": a " + v, x.statement(operation, v, 0, 0, 0), -1);
                DUE.is("operation " + operation + ": b " + v, x.statement(operation, 0, v, 0, 0), -1);
                DUE.is("operation " + operation + ": c " + v, x.statement(operation, 0, 0, v, 0), -1);
            }
        }
        DUE.is("none was taken", x.statement(4, 15, 15, 15, 11), 0);
        DUE.is("GOTO is for operation 4 alone", x.statement(3, 0, 0, 0, -1), 1);
        DUE.is("GOTO is for operation 4 alone, 12", x.statement(6, 0, 0, 0, 12), 2);
    }

    private static void clears() {
        DelayMachine x = new DelayMachine();
        x.statement(2, 0, 0, 1, 0);
        DUE.is("assemble", x.assemble(), 3);
        x.clear();
        DUE.is("no statements", x.assemble(), -1);
        DUE.is("placed stays", x.placed(0), 0);
        DUE.is("variable stays", x.variable(1), 4);
        DUE.is("orders stay", x.read(0, 2), 38);
        DUE.is("the first again", x.statement(6, 0, 0, 0, 0), 0);
        DUE.is("assemble again", x.assemble(), 1);
        DUE.is("variable is not placed now", x.variable(1), -1);
    }

    /** One statement alone: its orders, two places apart, its variables where the windows begin, a stop behind. */
    private static void eachOperation() {
        alone(0, new int[] {Orders.single(2, 6, 0, 0), Orders.single(2, 9, 0, 0), Orders.single(6, 2, 0, 0)}, 2, 4, 6);
        alone(1, new int[] {Orders.single(2, 6, 0, 0), Orders.single(2, 10, 0, 0), Orders.single(6, 2, 0, 0)}, 2, 4, 6);
        alone(2, new int[] {Orders.single(2, 6, 0, 0), Orders.single(6, 2, 0, 0)}, 2, -1, 4);
        alone(3, new int[] {Orders.single(2, 15, 0, 0)}, 2, -1, -1);
        alone(5, new int[] {Orders.single(13, 2, 0, 0)}, -1, -1, 2);
        alone(6, new int[] {}, -1, -1, -1);
    }

    private static void alone(int operation, int[] orders, int a, int b, int c) {
        DelayMachine x = new DelayMachine();
        x.statement(operation, 3, 8, 15, 0);
        String name = "operation " + operation;
        DUE.is(name + " assemble()", x.assemble(), orders.length + 1);
        for (int i = 0; i < orders.length; i++) {
            DUE.is(name + " order " + i, x.read(0, 2 * i), orders[i]);
        }
        for (int place = 0; place < 32; place++) {
            boolean one = place % 2 == 0 && place < 2 * orders.length;
            DUE.is(name + " the rest of line 0", !one && x.read(0, place) != Orders.stop(), false);
            DUE.is(name + " line 1", x.read(1, place), Orders.stop());
        }
        DUE.is(name + " placed(0)", x.placed(0), 0);
        DUE.is(name + " placed(1)", x.placed(1), -1);
        DUE.is(name + " a", x.variable(3), a);
        DUE.is(name + " b", x.variable(8), b);
        DUE.is(name + " c", x.variable(15), c);
        int[] none = {-1, 0, 16, Integer.MIN_VALUE, Integer.MAX_VALUE};
        for (int v : none) {
            DUE.is(name + " variable(" + v + ")", x.variable(v), -1);
        }
        int[] noStatement = {-1, 1, 11, 12, Integer.MIN_VALUE, Integer.MAX_VALUE};
        for (int s : noStatement) {
            DUE.is(name + " placed(" + s + ")", x.placed(s), -1);
        }
    }

    /** The second order must wait for a variable that has just passed; the stop finds its place in line 1. */
    private static void sharedVariable() {
        DelayMachine x = new DelayMachine();
        x.statement(2, 0, 0, 0, 0);
        DUE.is("shared: assemble()", x.assemble(), 3);
        DUE.is("shared: variable(0)", x.variable(0), 2);
        DUE.is("shared: (a, A)", x.read(0, 0), Orders.single(2, 6, 0, 0));
        DUE.is("shared: (A, c)", x.read(0, 2), Orders.single(6, 2, 30, 30) + LINE_ONE);
        DUE.is("shared: stop", x.read(1, 2), Orders.stop());
        x.clear();
        x.statement(3, 0, 0, 0, 0);
        x.statement(3, 1, 0, 0, 0);
        x.statement(3, 0, 0, 0, 0);
        x.statement(3, 0, 0, 0, 0);
        x.statement(3, 0, 0, 0, 0);
        DUE.is("both lines are full there: assemble()", x.assemble(), 6);
        int[] placed = {0, 2, 4, 34, 3};
        for (int i = 0; i < placed.length; i++) {
            DUE.is("both lines are full there: placed(" + i + ")", x.placed(i), placed[i]);
        }
        DUE.is("third", x.read(0, 4), Orders.single(2, 15, 28, 28) + LINE_ONE);
        DUE.is("fourth", x.read(1, 2), Orders.single(2, 15, 30, 31));
        DUE.is("fifth", x.read(0, 3), Orders.single(2, 15, 29, 30) + LINE_ONE);
        DUE.is("stop", x.read(1, 3), Orders.stop());
    }

    private static void fork() {
        DelayMachine x = new DelayMachine();
        x.statement(4, 3, 0, 0, 1);
        x.statement(6, 0, 0, 0, 0);
        DUE.is("fork: assemble()", x.assemble(), 4);
        DUE.is("fork: (a, below 0)", x.read(0, 0), Orders.single(2, 11, 0, 1));
        DUE.is("fork: at q", x.read(0, 3), Orders.single(0, 0, 0, 0));
        DUE.is("fork: at q + 1", x.read(0, 4), Orders.single(0, 0, 0, 31));
        DUE.is("fork: placed(0)", x.placed(0), 0);
        DUE.is("fork: placed(1)", x.placed(1), 5);
        x.start(0, 0);
        DUE.is("not below 0: run", x.run(100), 8);
        DUE.is("not below 0: orders", x.look(5), 3);
        x.word(2, 2, (short) -1);
        x.start(0, 0);
        x.run(24);
        DUE.is("below 0: run", x.run(100), 40);
        DUE.is("below 0: orders", x.look(5), 3);
        forkAlone();
    }

    /** The last statement is no stop: one is added, and at q it leads there; GOTO is the statement itself. */
    private static void forkAlone() {
        DelayMachine x = new DelayMachine();
        x.statement(4, 0, 0, 0, 0);
        DUE.is("fork alone: assemble()", x.assemble(), 4);
        DUE.is("fork alone: at q", x.read(0, 3), 0);
        DUE.is("fork alone: at q + 1", x.read(0, 4), Orders.single(0, 0, 0, 26));
        DUE.is("fork alone: the added stop", x.read(0, 5), Orders.stop());
        DUE.is("fork alone: it is no statement", x.placed(1), -1);
        x.word(2, 2, (short) -1);
        x.start(0, 0);
        DUE.is("fork alone: goes round", x.run(320), 320);
        DUE.is("fork alone: orders", x.look(5), 20);
        x.word(2, 2, (short) 0);
        DUE.is("fork alone: ends", x.run(320), 8);
    }

    private static void stopInTheMiddle() {
        DelayMachine x = new DelayMachine();
        x.statement(6, 0, 0, 0, 0);
        x.statement(3, 0, 0, 0, 0);
        x.statement(6, 0, 0, 0, 0);
        x.statement(6, 0, 0, 0, 0);
        DUE.is("stops: assemble()", x.assemble(), 4);
        int[] places = {0, 2, 4, 6};
        for (int i = 0; i < places.length; i++) {
            DUE.is("stops: placed(" + i + ")", x.placed(i), places[i]);
            DUE.is("stops: read", x.read(0, places[i]), i == 1 ? Orders.single(2, 15, 0, 0) : Orders.stop());
        }
        stopBeforeLineOne();
    }

    /** A stop leads nowhere, whatever the line of the order that is placed next. */
    private static void stopBeforeLineOne() {
        DelayMachine x = new DelayMachine();
        x.statement(3, 0, 0, 0, 0);
        x.statement(3, 1, 0, 0, 0);
        x.statement(3, 0, 0, 0, 0);
        x.statement(6, 0, 0, 0, 0);
        x.statement(3, 1, 0, 0, 0);
        DUE.is("stop before line 1: assemble()", x.assemble(), 6);
        DUE.is("stop before line 1: placed(3)", x.placed(3), 34);
        DUE.is("stop before line 1: placed(4)", x.placed(4), 36);
        DUE.is("stop before line 1: the stop", x.read(1, 2), Orders.stop());
    }

    private static void replaces() {
        DelayMachine x = new DelayMachine();
        for (int place = 0; place < 32; place++) {
            x.order(0, place, 5);
            x.order(1, place, 6);
            x.word(2, place, (short) 7);
        }
        x.statement(3, 0, 0, 0, 0);
        DUE.is("replaces: assemble()", x.assemble(), 2);
        for (int place = 0; place < 32; place++) {
            DUE.is("replaces: line 0", x.read(0, place), place == 0 ? Orders.single(2, 15, 0, 0) : Orders.stop());
            DUE.is("replaces: line 1", x.read(1, place), Orders.stop());
            DUE.is("words stay", x.peek(2, place), 7);
        }
        DUE.is("again", x.assemble(), 2);
        x.statement(3, 1, 0, 0, 0);
        DUE.is("with one more", x.assemble(), 3);
        DUE.is("the new one", x.placed(1), 2);
        DUE.is("its variable", x.variable(1), 4);
        x.clear();
        x.statement(6, 0, 0, 0, 0);
        for (int i = 0; i < 3; i++) {
            DUE.is("a stop alone", x.assemble(), 1);
            DUE.is("a stop alone: placed(0)", x.placed(0), 0);
            DUE.is("a stop alone: placed(1)", x.placed(1), -1);
            DUE.is("a stop alone: variable(0)", x.variable(0), -1);
            DUE.is("a stop alone: variable(1)", x.variable(1), -1);
        }
    }

    private static void refused() {
        DelayMachine x = new DelayMachine();
        x.statement(3, 5, 0, 0, 0);
        x.assemble();
        x.order(0, 0, 99);
        x.statement(4, 6, 0, 0, 2);
        DUE.is("a GOTO leads to none", x.assemble(), -1);
        unchanged(x, "GOTO");
        x.statement(6, 0, 0, 0, 0);
        x.start(1, 20);
        DUE.is("going", x.assemble(), -1);
        unchanged(x, "going");
        x.run(100);
        DUE.is("stopped", x.assemble(), 5);
        DUE.is("stopped: placed(2)", x.placed(2), 7);
    }

    private static void unchanged(DelayMachine x, String name) {
        DUE.is(name + ": order", x.read(0, 0), 99);
        DUE.is(name + ": other order", x.read(0, 2), Orders.stop());
        DUE.is(name + ": placed(0)", x.placed(0), 0);
        DUE.is(name + ": placed(1)", x.placed(1), -1);
        DUE.is(name + ": variable(5)", x.variable(5), 2);
        DUE.is(name + ": variable(6)", x.variable(6), -1);
    }

    private static void gotoEdges() {
        DelayMachine x = new DelayMachine();
        for (int i = 0; i < 11; i++) {
            x.statement(4, 0, 0, 0, 11);
        }
        DUE.is("GOTO 11 of 11", x.assemble(), -1);
        x.statement(6, 0, 0, 0, 0);
        DUE.is("GOTO 11 of 12", x.assemble(), 34);
    }

    /** Gives the sums of a tour: the order that uses tour[i] is placed i-th, and leads to that variable's place. */
    private static DelayMachine toured(int[] tour) {
        DelayMachine x = new DelayMachine();
        x.statement(6, 0, 0, 0, 0);
        x.assemble();
        x.clear();
        for (int i = 0; i + 2 < tour.length; i += 3) {
            x.statement(0, tour[i], tour[i + 1], tour[i + 2], 0);
        }
        return x;
    }

    /** Fills the even places of both lines, so that no two places side by side are free. */
    private static void tours() {
        int[] even = new int[30];
        for (int i = 0; i < even.length; i++) {
            even[i] = i % 16;
        }
        DelayMachine x = toured(even);
        x.statement(2, 14, 0, 15, 0);
        DUE.is("tour: it fits without a fork", x.assemble(), 33);
        DUE.is("tour: the copy", x.placed(10), 32 + 28);
        DUE.is("tour: the stop", x.read(0, 1), Orders.stop());
        DelayMachine y = toured(even);
        y.statement(2, 14, 0, 15, 0);
        y.statement(4, 0, 0, 0, 0);
        DUE.is("tour: no place for a fork", y.assemble(), -1);
        DUE.is("tour: orders stay", y.read(0, 2), Orders.stop());
        DUE.is("tour: placed stays", y.placed(1), -1);
        DUE.is("tour: variables stay", y.variable(0), -1);
        DelayMachine z = toured(hole(13, 13, 15));
        z.statement(4, 14, 0, 0, 0);
        DUE.is("a fork is not placed at FROM", z.assemble(), -1);
        DelayMachine w = toured(hole(15, 15, 15));
        w.statement(4, 14, 0, 0, 0);
        DUE.is("a fork is placed at FROM + 31", w.assemble(), 37);
        DUE.is("at FROM + 31: (a, below 0)", w.read(0, 3), Orders.single(2, 11, 25, 24) + LINE_ONE);
        DUE.is("at FROM + 31: q", w.read(1, 29), Orders.single(0, 0, 0, 0));
        DUE.is("at FROM + 31: q + 1", w.read(1, 30), Orders.single(0, 0, 0, 0));
    }

    /** A tour that leaves place 30 of line 1 free; the last three orders are led where it is asked. */
    private static int[] hole(int first, int second, int third) {
        int[] tour = new int[33];
        for (int i = 0; i < 30; i++) {
            tour[i] = i % 16;
        }
        tour[30] = first;
        tour[31] = second;
        tour[32] = third;
        return tour;
    }

    /** Punches variable 0 and adds variable 1 to it, while it is below 0. */
    private static void runsLoop() {
        DelayMachine x = new DelayMachine();
        x.statement(3, 0, 0, 0, 0);
        x.statement(0, 0, 1, 0, 0);
        x.statement(4, 0, 0, 0, 0);
        x.statement(3, 2, 0, 0, 0);
        DUE.is("loop: assemble()", x.assemble(), 9);
        x.word(2, x.variable(0), (short) -3);
        x.word(2, x.variable(1), (short) 1);
        x.word(2, x.variable(2), (short) 1000);
        x.start(x.placed(0) / 32, x.placed(0) % 32);
        x.run(2000);
        DUE.is("loop: stopped", x.look(0), 0);
        DUE.is("loop: fault", x.look(1), 0);
        DUE.is("loop: punched", x.look(7), 4);
        int[] rows = {-3, -2, -1, 1000};
        for (int i = 0; i < rows.length; i++) {
            DUE.is("loop: punched(" + i + ")", x.punched(i), rows[i]);
        }
    }

    /** A card is fed in cycle 24; the program begins at cycle 64, so that its window is in the last cycle of row 0. */
    private static void readsRow() {
        DelayMachine x = new DelayMachine();
        x.statement(5, 0, 0, 4, 0);
        DUE.is("row: assemble()", x.assemble(), 2);
        for (int i = 0; i < 12; i++) {
            x.card((short) (50 + i));
        }
        x.order(1, 20, Orders.single(0, Orders.FEED, 2, 31) + LINE_ONE);
        x.order(1, 21, Orders.single(0, 0, 0, 9));
        x.start(1, 20);
        DUE.is("row: run", x.run(200), 69);
        DUE.is("row: fault", x.look(1), 0);
        DUE.is("row: variable", x.peek(2, x.variable(4)), 50);
        x.start(0, 0);
        x.run(200);
        DUE.is("row: 0 when none can be read", x.peek(2, x.variable(4)), 0);
    }
}
