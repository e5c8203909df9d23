/** The edges of promises 11 to 15, and what each operation does with words at their edges. */
public final class StatementEdgesTest {
    private static final Due DUE = new Due();
    private static final int[] NONE_OF_16 = {-1, 16, Integer.MIN_VALUE, Integer.MAX_VALUE};
    private static final int[] NONE_OF_12 = {-1, 12, Integer.MIN_VALUE, Integer.MAX_VALUE};

    public static void main(String[] args) {
        operations();
        eachVariable();
        gotoForOperationFour();
        gotoForTheOthers();
        twelveStatements();
        clearMakesRoom();
        clearLeavesTheRest();
        assembleWithoutStatements();
        gotoLeadsToNone();
        assembleWhileItIsGoing();
        replacesAllOrders();
        placedStatements();
        placedVariables();
        sumsAndDifferences();
        oneVariableForAll();
        branches();
        rows();
        DUE.end();
    }

    /** "-1 if an operation is none": 0 and 6 are the last that are taken. */
    private static void operations() {
        DelayMachine x = new DelayMachine();
        int[] wrong = {-1, 7, 8, Integer.MIN_VALUE, Integer.MAX_VALUE};
        for (int operation : wrong) {
            DUE.is("operation " + operation, x.statement(operation, 0, 0, 0, 0), -1);
        }
        for (int operation = 0; operation <= 6; operation++) {
            DUE.is("operation " + operation, x.statement(operation, 0, 0, 0, 0), operation);
        }
    }

    /** "VARIABLES a, b, c (0 .. 15)": none is taken outside, for any operation. */
    private static void eachVariable() {
        for (int operation = 0; operation <= 6; operation++) {
            DelayMachine x = new DelayMachine();
            for (int v : NONE_OF_16) {
                String name = "operation " + operation + " with variable " + v;
                DUE.is(name + " as a", x.statement(operation, v, 0, 0, 0), -1);
                DUE.is(name + " as b", x.statement(operation, 0, v, 0, 0), -1);
                DUE.is(name + " as c", x.statement(operation, 0, 0, v, 0), -1);
            }
            DUE.is("operation " + operation + " with 0", x.statement(operation, 0, 0, 0, 0), 0);
            DUE.is("operation " + operation + " with 15 as a", x.statement(operation, 15, 0, 0, 0), 1);
            DUE.is("operation " + operation + " with 15 as b", x.statement(operation, 0, 15, 0, 0), 2);
            DUE.is("operation " + operation + " with 15 as c", x.statement(operation, 0, 0, 15, 0), 3);
        }
    }

    /** "or GOTO (0 .. 11, for operation 4 alone) is none". */
    private static void gotoForOperationFour() {
        DelayMachine x = new DelayMachine();
        for (int go : NONE_OF_12) {
            DUE.is("GOTO " + go, x.statement(4, 0, 0, 0, go), -1);
        }
        for (int go = 0; go <= 11; go++) {
            DUE.is("GOTO " + go, x.statement(4, 0, 0, 0, go), go);
        }
    }

    private static void gotoForTheOthers() {
        int[] operations = {0, 1, 2, 3, 5, 6};
        for (int operation : operations) {
            DelayMachine x = new DelayMachine();
            for (int i = 0; i < NONE_OF_12.length; i++) {
                int number = x.statement(operation, 0, 0, 0, NONE_OF_12[i]);
                DUE.is("operation " + operation + " with GOTO " + NONE_OF_12[i], number, i);
            }
            DUE.is("operation " + operation + " has no GOTO", x.assemble() > 0, true);
        }
    }

    /** "-1 if there are 12". */
    private static void twelveStatements() {
        DelayMachine x = new DelayMachine();
        for (int i = 0; i < 12; i++) {
            DUE.is("statement " + i, x.statement(3, i, 0, 0, 0), i);
        }
        for (int operation = 0; operation <= 6; operation++) {
            DUE.is("the 13th, operation " + operation, x.statement(operation, 0, 0, 0, 0), -1);
        }
        DUE.is("12 punches and a stop", x.assemble(), 13);
        DUE.is("placed(11)", x.placed(11), 22);
        DUE.is("placed(12)", x.placed(12), -1);
    }

    /** "No statements": the next one is number 0, and 12 can come again. */
    private static void clearMakesRoom() {
        DelayMachine x = new DelayMachine();
        x.clear();
        for (int round = 0; round < 3; round++) {
            for (int i = 0; i < 12; i++) {
                DUE.is("round " + round + ", statement " + i, x.statement(6, 0, 0, 0, 0), i);
            }
            DUE.is("round " + round + ", the 13th", x.statement(6, 0, 0, 0, 0), -1);
            x.clear();
            DUE.is("round " + round + ", cleared", x.assemble(), -1);
        }
    }

    private static void clearLeavesTheRest() {
        DelayMachine x = new DelayMachine();
        x.statement(2, 3, 0, 4, 0);
        x.assemble();
        x.word(2, 9, (short) 8);
        x.card((short) 7);
        x.start(0, 0);
        x.run(1);
        x.clear();
        DUE.is("it is going", x.look(0), 1);
        DUE.is("NOW", x.look(2), 1);
        DUE.is("the deck", x.look(6), 1);
        DUE.is("an order", x.read(0, 2), Orders.single(6, 2, 0, 0));
        DUE.is("a word", x.peek(2, 9), 8);
        DUE.is("placed(0)", x.placed(0), 0);
        DUE.is("variable(4)", x.variable(4), 4);
        x.clear();
        DUE.is("cleared twice", x.statement(6, 0, 0, 0, 0), 0);
    }

    /** "-1, refused, if there are none". */
    private static void assembleWithoutStatements() {
        DelayMachine x = new DelayMachine();
        x.order(0, 0, 5);
        DUE.is("no statements", x.assemble(), -1);
        DUE.is("no statements: the order stays", x.read(0, 0), 5);
        x.statement(6, 0, 0, 0, 0);
        DUE.is("one statement", x.assemble(), 1);
        DUE.is("one statement: the order", x.read(0, 0), Orders.stop());
    }

    /** "a GOTO leads to none": of n statements the last is n - 1. */
    private static void gotoLeadsToNone() {
        for (int n = 1; n <= 12; n++) {
            for (int go = Math.max(0, n - 2); go <= Math.min(11, n + 1); go++) {
                DelayMachine x = new DelayMachine();
                x.statement(4, 0, 0, 0, go);
                for (int i = 1; i < n; i++) {
                    x.statement(6, 0, 0, 0, 0);
                }
                DUE.is("GOTO " + go + " of " + n, x.assemble(), go >= n ? -1 : n == 1 ? 4 : n + 2);
            }
        }
        DelayMachine y = new DelayMachine();
        y.statement(6, 0, 0, 0, 0);
        y.statement(4, 0, 0, 0, 2);
        DUE.is("the last one leads to none", y.assemble(), -1);
        y.statement(6, 0, 0, 0, 0);
        DUE.is("a statement more", y.assemble(), 5);
    }

    /** "or the machine is going": from the start to the stop. */
    private static void assembleWhileItIsGoing() {
        DelayMachine x = new DelayMachine();
        x.order(0, 1, Orders.stop());
        x.statement(3, 0, 0, 0, 0);
        x.start(0, 1);
        DUE.is("before its first cycle", x.assemble(), -1);
        x.run(3);
        DUE.is("before the cycle of the stop", x.assemble(), -1);
        DUE.is("the order stays", x.read(0, 1), Orders.stop());
        DUE.is("nothing is placed", x.placed(0), -1);
        x.run(1);
        DUE.is("behind the stop", x.assemble(), 2);
        DelayMachine y = new DelayMachine();
        y.order(0, 0, Orders.single(0, Orders.FEED, 0, 0));
        y.statement(3, 0, 0, 0, 0);
        y.start(0, 0);
        y.run(9);
        DUE.is("stopped by a fault", y.look(1), 2);
        DUE.is("behind a fault", y.assemble(), 2);
        DUE.is("the fault stays", y.look(1), 2);
        DUE.is("NOW stays", y.look(2), 3);
    }

    /** "that replaces all orders of both lines; places without one have (0, STOP). Words stay." */
    private static void replacesAllOrders() {
        DelayMachine x = new DelayMachine();
        for (int place = 0; place < 32; place++) {
            x.order(0, place, 2097151);
            x.order(1, place, 2097151);
            x.word(2, place, (short) -place);
            x.word(5, place, (short) place);
        }
        x.word(6, 0, (short) 1);
        x.word(8, 1, (short) 2);
        x.statement(6, 0, 0, 0, 0);
        DUE.is("a stop alone", x.assemble(), 1);
        for (int place = 0; place < 32; place++) {
            DUE.is("line 0 at " + place, x.read(0, place), 1015824);
            DUE.is("line 1 at " + place, x.read(1, place), 1015824);
            DUE.is("line 2 at " + place, x.peek(2, place), -place);
            DUE.is("line 5 at " + place, x.peek(5, place), place);
        }
        DUE.is("A", x.peek(6, 0), 1);
        DUE.is("D", x.peek(8, 1), 2);
    }

    /** Promise 14: "by the latest assemble() that was not refused", "-1 if there is none". */
    private static void placedStatements() {
        DelayMachine x = new DelayMachine();
        x.statement(3, 0, 0, 0, 0);
        DUE.is("not assembled yet", x.placed(0), -1);
        x.assemble();
        x.statement(3, 1, 0, 0, 0);
        DUE.is("placed(0)", x.placed(0), 0);
        DUE.is("placed(1), not assembled yet", x.placed(1), -1);
        x.assemble();
        DUE.is("placed(1)", x.placed(1), 2);
        DUE.is("placed(2), the added stop", x.placed(2), -1);
        for (int statement : NONE_OF_12) {
            DUE.is("placed(" + statement + ")", x.placed(statement), -1);
        }
        x.statement(4, 0, 0, 0, 9);
        DUE.is("refused", x.assemble(), -1);
        DUE.is("placed(1) after it", x.placed(1), 2);
        DUE.is("placed(2) after it", x.placed(2), -1);
        x.clear();
        x.statement(6, 0, 0, 0, 0);
        x.assemble();
        DUE.is("placed(0) of a shorter program", x.placed(0), 0);
        DUE.is("placed(1) of a shorter program", x.placed(1), -1);
    }

    /** Promise 15: "Where a variable was placed then; -1 if it was not". */
    private static void placedVariables() {
        DelayMachine x = new DelayMachine();
        x.statement(2, 15, 7, 0, 0);
        DUE.is("variable(15), not assembled yet", x.variable(15), -1);
        x.assemble();
        DUE.is("variable(15)", x.variable(15), 2);
        DUE.is("variable(0)", x.variable(0), 4);
        DUE.is("variable(7), which a copy does not use", x.variable(7), -1);
        for (int v : NONE_OF_16) {
            DUE.is("variable(" + v + ")", x.variable(v), -1);
        }
        x.statement(4, 3, 0, 0, 9);
        DUE.is("refused", x.assemble(), -1);
        DUE.is("variable(3) after it", x.variable(3), -1);
        DUE.is("variable(15) after it", x.variable(15), 2);
        x.clear();
        x.statement(3, 0, 15, 15, 0);
        x.assemble();
        DUE.is("variable(0) in another program", x.variable(0), 2);
        DUE.is("variable(15) in another program", x.variable(15), -1);
    }

    private static int result(int operation, int a, int b) {
        DelayMachine x = new DelayMachine();
        x.statement(operation, 1, 2, 3, 0);
        x.assemble();
        x.word(2, x.variable(1), (short) a);
        if (x.variable(2) >= 0) {
            x.word(2, x.variable(2), (short) b);
        }
        x.word(2, x.variable(3), (short) 1234);
        x.start(0, 0);
        x.run(2000);
        DUE.is("operation " + operation + " ends", x.look(0), 0);
        DUE.is("operation " + operation + " leaves a", x.peek(2, x.variable(1)), a);
        return x.peek(2, x.variable(3));
    }

    /** "0: c is a + b. 1: c is a - b. 2: c is a." */
    private static void sumsAndDifferences() {
        int[][] cases = {
            // a, b, a + b, a - b
            {0, 0, 0, 0}, {32767, 1, -32768, 32766}, {-32768, 1, -32767, 32767}, {-32768, -1, 32767, -32767},
            {0, -32768, -32768, -32768}, {32767, 32767, -2, 0}, {-32768, -32768, 0, 0}, {40, 2, 42, 38}};
        for (int[] c : cases) {
            DUE.is(c[0] + " + " + c[1], result(0, c[0], c[1]), c[2]);
            DUE.is(c[0] + " - " + c[1], result(1, c[0], c[1]), c[3]);
            DUE.is(c[0] + " copied", result(2, c[0], c[1]), c[0]);
        }
    }

    /** One variable as a, b and c. */
    private static void oneVariableForAll() {
        int[] want = {-14, 0, -7};
        for (int operation = 0; operation <= 2; operation++) {
            DelayMachine x = new DelayMachine();
            x.statement(operation, 9, 9, 9, 0);
            x.assemble();
            DUE.is("one variable", x.variable(9), 2);
            x.word(2, 2, (short) -7);
            x.start(0, 0);
            x.run(2000);
            DUE.is("operation " + operation + " on one variable", x.peek(2, 2), want[operation]);
        }
    }

    /** "4: if a is below 0, on at GOTO", else at the next statement. */
    private static void branches() {
        int[][] cases = {{-32768, 2}, {-1, 2}, {0, 1}, {1, 1}, {32767, 1}};
        for (int[] c : cases) {
            DelayMachine x = new DelayMachine();
            x.statement(4, 0, 0, 0, 3);
            x.statement(3, 1, 0, 0, 0);
            x.statement(6, 0, 0, 0, 0);
            x.statement(3, 2, 0, 0, 0);
            DUE.is("branch: assemble()", x.assemble(), 7);
            x.word(2, x.variable(0), (short) c[0]);
            x.word(2, x.variable(1), (short) 1);
            x.word(2, x.variable(2), (short) 2);
            x.start(0, 0);
            x.run(2000);
            DUE.is("branch with " + c[0] + ": punched", x.look(7), 1);
            DUE.is("branch with " + c[0] + ": row", x.punched(0), c[1]);
        }
    }

    /** "5: c is the row that can be read then": the statement's window is cycle 66, row 0 for a card of 24 to 26. */
    private static void rows() {
        for (int fed = 22; fed <= 28; fed++) {
            DelayMachine x = new DelayMachine();
            for (int i = 0; i < 12; i++) {
                x.card((short) (700 + i));
            }
            x.statement(5, 0, 0, 1, 0);
            x.assemble();
            x.order(1, 20, Orders.order(0, Orders.FEED, 0, fed - 22, 10, 1));
            x.order(1, 0, Orders.order(0, 0, 0, 0, 30, 0));
            x.word(2, x.variable(1), (short) -3);
            x.start(1, 20);
            x.run(67);
            boolean missed = fed < 24;
            DUE.is("fed in cycle " + fed, x.peek(2, x.variable(1)), missed ? -3 : fed <= 26 ? 700 : 0);
            DUE.is("fed in cycle " + fed + ": fault", x.look(1), missed ? 1 : 0);
        }
    }
}
