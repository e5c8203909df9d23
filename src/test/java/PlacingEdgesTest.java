/** The edges under ASSEMBLER, PLACING and FORK; the places were found by hand, with the document's words. */
public final class PlacingEdgesTest {
    private static final Due DUE = new Due();
    private static final int LINE_ONE = 1 << 20;
    private static final int BELOW = Orders.BELOW_ZERO;
    private static final int PUNCH = Orders.PUNCH;

    public static void main(String[] args) {
        fromIsZeroAtFirst();
        placesGoRoundFromThirty();
        placesGoRoundFromThirtyOne();
        lineZeroIfInBoth();
        variableAtTheFirstFreePlace();
        variableBehindItsOrder();
        variableGoesRound();
        forkBehindFrom();
        forkInLineOne();
        forkRoundTheEnd();
        forkUpToTheEnd();
        forkNeedsTwoPlacesSideBySide();
        forkLooksBehindAnEvenPlace();
        forkNeedsThemInOneLine();
        forkUpToFromAndThirtyOne();
        forkNotAtFrom();
        doesNotFit();
        gotoBackAndForth();
        twelveForks();
        addedStop();
        DUE.end();
    }

    private static DelayMachine program(int[]... statements) {
        DelayMachine x = new DelayMachine();
        for (int[] s : statements) {
            add(x, s);
        }
        return x;
    }

    private static void add(DelayMachine x, int... s) {
        x.statement(s[0], s[1], s[2], s[3], s[4]);
    }

    private static int[] sum(int a, int b, int c) {
        return new int[] {0, a, b, c, 0};
    }

    private static int[] copy(int a, int c) {
        return new int[] {2, a, 0, c, 0};
    }

    private static int[] punch(int a) {
        return new int[] {3, a, 0, 0, 0};
    }

    private static int[] branch(int a, int go) {
        return new int[] {4, a, 0, 0, go};
    }

    private static void placed(String name, DelayMachine x, int... want) {
        for (int i = 0; i < want.length; i++) {
            DUE.is(name + ": placed(" + i + ")", x.placed(i), want[i]);
        }
        DUE.is(name + ": placed(" + want.length + ")", x.placed(want.length), -1);
    }

    private static void variables(String name, DelayMachine x, int... want) {
        for (int v = 0; v < 16; v++) {
            DUE.is(name + ": variable(" + v + ")", x.variable(v), v < want.length ? want[v] : -1);
        }
    }

    /** "It has a place FROM, 0 at first": for each assemble(). */
    private static void fromIsZeroAtFirst() {
        DelayMachine x = program(punch(7));
        for (int i = 0; i < 3; i++) {
            DUE.is("one punch: assemble()", x.assemble(), 2);
            placed("one punch", x, 0);
            DUE.is("one punch: variable(7)", x.variable(7), 2);
            DUE.is("one punch: order", x.read(0, 0), Orders.single(2, PUNCH, 0, 0));
        }
    }

    /** "places go ROUND, 0 behind 31": the order at 30 has its variable at 0, and the next order is at 0. */
    private static void placesGoRoundFromThirty() {
        DelayMachine x = program(copy(0, 1), copy(2, 3), copy(4, 5), copy(6, 7), copy(8, 9), copy(10, 11),
            copy(12, 13), copy(14, 15), punch(0));
        DUE.is("round from 30: assemble()", x.assemble(), 18);
        placed("round from 30", x, 0, 4, 8, 12, 16, 20, 24, 28, 32);
        variables("round from 30", x, 2, 4, 6, 8, 10, 12, 14, 16, 18, 20, 22, 24, 26, 28, 30, 0);
        for (int place = 0; place < 32; place += 4) {
            DUE.is("round from 30: (a, A) at " + place, x.read(0, place), Orders.single(2, 6, 0, 0));
            int next = place == 28 ? LINE_ONE : 0;
            DUE.is("round from 30: (A, c) behind " + place, x.read(0, place + 2), Orders.single(6, 2, 0, 0) + next);
        }
        DUE.is("round from 30: punch", x.read(1, 0), Orders.single(2, PUNCH, 0, 0) + LINE_ONE);
    }

    /** The fork at 3 and 4 makes the places odd: the order at 31 has its variable at 1, and the next order is at 1. */
    private static void placesGoRoundFromThirtyOne() {
        DelayMachine x = program(branch(0, 1), sum(1, 2, 3), sum(4, 5, 6), sum(7, 8, 9), sum(10, 11, 12),
            copy(13, 14), punch(0));
        DUE.is("round from 31: assemble()", x.assemble(), 19);
        placed("round from 31", x, 0, 5, 11, 17, 23, 29, 1);
        variables("round from 31", x, 2, 7, 9, 11, 13, 15, 17, 19, 21, 23, 25, 27, 29, 31, 1);
        DUE.is("round from 31: (A, c) at 31", x.read(0, 31), Orders.single(6, 2, 0, 0));
        DUE.is("round from 31: punch, with the longest wait", x.read(0, 1), Orders.single(2, PUNCH, 31, 31));
        DUE.is("round from 31: the stop", x.read(0, 2), Orders.stop());
        DUE.is("round from 31: at q + 1", x.read(0, 4), Orders.single(0, 0, 0, 31));
    }

    /** "that is free in line 0 or 1, in line 0 if in both": each punch comes back to place 2. */
    private static void lineZeroIfInBoth() {
        DelayMachine x = new DelayMachine();
        for (int i = 0; i < 12; i++) {
            add(x, punch(0));
        }
        DUE.is("punches: assemble()", x.assemble(), 13);
        placed("punches", x, 0, 2, 34, 3, 35, 4, 36, 5, 37, 6, 38, 7);
        DUE.is("punches: at 0", x.read(0, 0), Orders.single(2, PUNCH, 0, 0));
        for (int place = 2; place <= 7; place++) {
            int first = Orders.single(2, PUNCH, 32 - place, 30) + LINE_ONE;
            int second = place == 7 ? Orders.stop() : Orders.single(2, PUNCH, 32 - place, 31);
            DUE.is("punches: line 0 at " + place, x.read(0, place), first);
            DUE.is("punches: line 1 at " + place, x.read(1, place), second);
        }
        DUE.is("punches: behind them", x.read(0, 8), Orders.stop());
    }

    /** "placed at the first free place of line 2 from p + 2 on": 4 is taken by variable 1, so variable 2 lies at 5. */
    private static void variableAtTheFirstFreePlace() {
        DelayMachine x = program(punch(0), punch(1), punch(0), punch(2), punch(0), punch(3));
        DUE.is("taken place: assemble()", x.assemble(), 7);
        placed("taken place", x, 0, 2, 4, 34, 5, 3);
        variables("taken place", x, 2, 4, 5, 6);
        DUE.is("taken place: third", x.read(0, 4), Orders.single(2, PUNCH, 28, 28) + LINE_ONE);
        DUE.is("taken place: fourth", x.read(1, 2), Orders.single(2, PUNCH, 1, 1));
        DUE.is("taken place: fifth", x.read(0, 5), Orders.single(2, PUNCH, 27, 28));
        DUE.is("taken place: sixth", x.read(0, 3), Orders.single(2, PUNCH, 1, 1));
        DUE.is("taken place: the stop", x.read(0, 6), Orders.stop());
    }

    /** FROM is 2, but the order is at 3, since 2 is taken in both lines: its variable is at 5, although 4 is free. */
    private static void variableBehindItsOrder() {
        DelayMachine x = program(punch(0), punch(0), punch(0), punch(1));
        DUE.is("behind its order: assemble()", x.assemble(), 5);
        placed("behind its order", x, 0, 2, 34, 3);
        variables("behind its order", x, 2, 5);
        DUE.is("behind its order: order", x.read(0, 3), Orders.single(2, PUNCH, 0, 0));
    }

    /** "from p + 2 on, round": p + 2 is 31 and taken, so variable 14 lies at 0. */
    private static void variableGoesRound() {
        DelayMachine x = program(branch(0, 0), sum(1, 2, 3), sum(4, 5, 6), sum(7, 8, 9), sum(10, 11, 12), punch(13),
            punch(12), punch(14));
        DUE.is("variable round: assemble()", x.assemble(), 19);
        placed("variable round", x, 0, 5, 11, 17, 23, 29, 31, 61);
        variables("variable round", x, 2, 7, 9, 11, 13, 15, 17, 19, 21, 23, 25, 27, 29, 31, 0);
        DUE.is("variable round: at 29", x.read(0, 29), Orders.single(2, PUNCH, 0, 0));
        DUE.is("variable round: at 31", x.read(0, 31), Orders.single(2, PUNCH, 28, 28) + LINE_ONE);
        DUE.is("variable round: line 1 at 29", x.read(1, 29), Orders.single(2, PUNCH, 1, 1) + LINE_ONE);
    }

    /** "q is the first place from FROM + 1": FROM is 2 and free, and the fork is at 3; FROM becomes 5. */
    private static void forkBehindFrom() {
        DelayMachine x = program(branch(0, 1), punch(1));
        DUE.is("fork: assemble()", x.assemble(), 5);
        placed("fork", x, 0, 5);
        variables("fork", x, 2, 7);
        DUE.is("fork: the order before", x.read(0, 0), Orders.single(2, BELOW, 0, 1));
        DUE.is("fork: at FROM", x.read(0, 2), Orders.stop());
        DUE.is("fork: at q", x.read(0, 3), Orders.single(0, 0, 0, 0));
        DUE.is("fork: at q + 1", x.read(0, 4), Orders.single(0, 0, 0, 31));
        DUE.is("fork: the next order", x.read(0, 5), Orders.single(2, PUNCH, 0, 0));
    }

    /** "free in one line, line 0 if in both": place 3 of line 0 is taken by the order before. */
    private static void forkInLineOne() {
        DelayMachine x = program(punch(0), punch(0), punch(0), branch(0, 0));
        DUE.is("line 1: assemble()", x.assemble(), 7);
        placed("line 1", x, 0, 2, 34, 3);
        DUE.is("line 1: the order before", x.read(0, 3), Orders.single(2, BELOW, 29, 30) + LINE_ONE);
        DUE.is("line 1: at q", x.read(1, 3), Orders.single(0, 0, 0, 0));
        DUE.is("line 1: at q + 1", x.read(1, 4), Orders.single(0, 0, 0, 26));
        DUE.is("line 1: line 0 is free", x.read(0, 4), Orders.stop());
        DelayMachine y = program(punch(0), punch(0), punch(0), punch(0), branch(0, 0));
        DUE.is("line 0 again: assemble()", y.assemble(), 8);
        placed("line 0 again", y, 0, 2, 34, 3, 35);
        DUE.is("line 0 again: the order before", y.read(1, 3), Orders.single(2, BELOW, 29, 31));
        DUE.is("line 0 again: at q", y.read(0, 4), Orders.single(0, 0, 0, 0));
        DUE.is("line 0 again: at q + 1", y.read(0, 5), Orders.single(0, 0, 0, 25));
        DUE.is("line 0 again: line 1 is free", y.read(1, 4), Orders.stop());
    }

    /** "q and q + 1, round": 31 and 0, in line 1, since line 0 has an order at 0; FROM becomes 1. */
    private static void forkRoundTheEnd() {
        DelayMachine x = program(copy(0, 1), copy(2, 3), copy(4, 5), copy(6, 7), copy(8, 9), copy(10, 11),
            copy(12, 13), branch(14, 2), punch(15));
        DUE.is("round: assemble()", x.assemble(), 19);
        placed("round", x, 0, 4, 8, 12, 16, 20, 24, 28, 1);
        variables("round", x, 2, 4, 6, 8, 10, 12, 14, 16, 18, 20, 22, 24, 26, 28, 30, 3);
        DUE.is("round: the order before", x.read(0, 28), Orders.single(2, BELOW, 0, 1) + LINE_ONE);
        DUE.is("round: at q", x.read(1, 31), Orders.single(0, 0, 0, 0));
        DUE.is("round: at q + 1", x.read(1, 0), Orders.single(0, 0, 0, 6));
        DUE.is("round: line 0 at 31", x.read(0, 31), Orders.stop());
        DUE.is("round: the next order", x.read(0, 1), Orders.single(2, PUNCH, 0, 0));
    }

    /** The fork is at 30 and 31: "FROM becomes q + 2, round", which is 0; variable 13 goes by the place taken there. */
    private static void forkUpToTheEnd() {
        DelayMachine x = program(branch(0, 0), sum(1, 2, 3), sum(4, 5, 6), sum(7, 8, 9), copy(10, 11), branch(12, 1),
            punch(13));
        DUE.is("up to 31: assemble()", x.assemble(), 19);
        placed("up to 31", x, 0, 5, 11, 17, 23, 27, 32);
        variables("up to 31", x, 2, 7, 9, 11, 13, 15, 17, 19, 21, 23, 25, 27, 29, 3);
        DUE.is("up to 31: the order before", x.read(0, 27), Orders.single(2, BELOW, 0, 1));
        DUE.is("up to 31: at q", x.read(0, 30), LINE_ONE);
        DUE.is("up to 31: at q + 1", x.read(0, 31), Orders.single(0, 0, 0, 4));
        DUE.is("up to 31: the next order", x.read(1, 0), Orders.single(2, PUNCH, 1, 1) + LINE_ONE);
    }

    /** FROM is 2; the places 3 and 5 are free in both lines, but 4 and 6 are taken: q is 7, in line 1. */
    private static void forkNeedsTwoPlacesSideBySide() {
        DelayMachine x = program(punch(0), punch(1), punch(2), punch(3), punch(0), punch(1), punch(2), branch(0, 0));
        DUE.is("side by side: assemble()", x.assemble(), 11);
        placed("side by side", x, 0, 2, 4, 6, 8, 34, 36, 38);
        DUE.is("side by side: the order before", x.read(1, 6), Orders.single(2, BELOW, 26, 31) + LINE_ONE);
        DUE.is("side by side: at q", x.read(1, 7), Orders.single(0, 0, 0, 0));
        DUE.is("side by side: at q + 1", x.read(1, 8), Orders.single(0, 0, 0, 22));
        for (int place = 3; place <= 5; place += 2) {
            DUE.is("side by side: line 0 at " + place, x.read(0, place), Orders.stop());
            DUE.is("side by side: line 1 at " + place, x.read(1, place), Orders.stop());
        }
    }

    /** FROM is 7; 8 is free in line 0, but 9 is taken there: q is 8, in line 1. */
    private static void forkLooksBehindAnEvenPlace() {
        DelayMachine x = program(branch(0, 0), punch(1), punch(2), punch(3), punch(1), branch(1, 0));
        DUE.is("even place: assemble()", x.assemble(), 11);
        placed("even place", x, 0, 5, 7, 9, 11, 39);
        DUE.is("even place: the order before", x.read(1, 7), Orders.single(2, BELOW, 30, 31) + LINE_ONE);
        DUE.is("even place: at q", x.read(1, 8), Orders.single(0, 0, 0, 0));
        DUE.is("even place: at q + 1", x.read(1, 9), Orders.single(0, 0, 0, 21));
        DUE.is("even place: line 0 at 8", x.read(0, 8), Orders.stop());
    }

    /** FROM is 6; 7 is free in line 0 and 8 in line 1, but neither line has both: q is 8, in line 1. */
    private static void forkNeedsThemInOneLine() {
        DelayMachine x = program(punch(0), punch(1), punch(2), punch(0), punch(4), branch(4, 0), branch(2, 0));
        DUE.is("in one line: assemble()", x.assemble(), 12);
        placed("in one line", x, 0, 2, 4, 6, 34, 5, 8);
        DUE.is("in one line: variable(4)", x.variable(4), 5);
        DUE.is("in one line: first fork, before", x.read(0, 5), Orders.single(2, BELOW, 30, 31) + LINE_ONE);
        DUE.is("in one line: first fork, q", x.read(1, 6), Orders.single(0, 0, 0, 0));
        DUE.is("in one line: first fork, q + 1", x.read(1, 7), Orders.single(0, 0, 0, 23));
        DUE.is("in one line: second fork, before", x.read(0, 8), Orders.single(2, BELOW, 28, 30) + LINE_ONE);
        DUE.is("in one line: second fork, q", x.read(1, 8), Orders.single(0, 0, 0, 0));
        DUE.is("in one line: second fork, q + 1", x.read(1, 9), Orders.single(0, 0, 0, 21));
        DUE.is("in one line: line 0 at 7", x.read(0, 7), Orders.stop());
    }

    /** Sums over all variables in turn: 30 orders, at the even places of line 0, then of line 1 up to place 26. */
    private static DelayMachine tenSums() {
        DelayMachine x = new DelayMachine();
        for (int i = 0; i < 30; i += 3) {
            add(x, sum(i % 16, (i + 1) % 16, (i + 2) % 16));
        }
        return x;
    }

    /** Three orders more, of which the first is at 28 of line 1: place 30 of line 1 stays free, between 29 and 31. */
    private static DelayMachine crowded(int first, int second, int third) {
        DelayMachine x = tenSums();
        add(x, sum(first, second, third));
        return x;
    }

    /** "up to FROM + 31": FROM is 30, and 29 and 30 of line 1 are the only two side by side that are free. */
    private static void forkUpToFromAndThirtyOne() {
        DelayMachine x = crowded(15, 15, 15);
        add(x, branch(14, 0));
        DUE.is("FROM + 31: assemble()", x.assemble(), 37);
        DUE.is("FROM + 31: variable(14)", x.variable(14), 30);
        DUE.is("FROM + 31: placed(11)", x.placed(11), 3);
        DUE.is("FROM + 31: the order before", x.read(0, 3), Orders.single(2, BELOW, 25, 24) + LINE_ONE);
        DUE.is("FROM + 31: at q", x.read(1, 29), Orders.single(0, 0, 0, 0));
        DUE.is("FROM + 31: at q + 1", x.read(1, 30), Orders.single(0, 0, 0, 0));
    }

    /** The two that are free are FROM and FROM + 1, which q must not be: the program does not fit. */
    private static void forkNotAtFrom() {
        DelayMachine x = crowded(13, 13, 15);
        DUE.is("at FROM: without the fork", x.assemble(), 34);
        add(x, branch(14, 0));
        DUE.is("at FROM: with the fork", x.assemble(), -1);
        DUE.is("at FROM: the latest one stays", x.placed(10), 60);
        DUE.is("at FROM: it has no fork", x.placed(11), -1);
        x.clear();
        add(x, punch(3));
        DUE.is("at FROM: another program fits", x.assemble(), 2);
    }

    /** "If there is no such place at any time, the program does not fit": every second place is taken in both lines. */
    private static void doesNotFit() {
        DelayMachine x = tenSums();
        add(x, punch(14));
        DUE.is("no two free places: before", x.assemble(), 32);
        int last = x.read(1, 28);
        add(x, branch(15, 0));
        DUE.is("no two free places: with a fork", x.assemble(), -1);
        DUE.is("no two free places: orders stay", x.read(1, 28), last);
        DUE.is("no two free places: the stop stays", x.read(1, 30), Orders.stop());
        DUE.is("no two free places: placed stays", x.placed(11), -1);
        DUE.is("no two free places: variable stays", x.variable(15), 0);
        DelayMachine y = tenSums();
        add(y, punch(14));
        add(y, punch(15));
        DUE.is("it fits without a fork", y.assemble(), 33);
        DelayMachine z = tenSums();
        add(z, branch(14, 0));
        add(z, 6, 0, 0, 0, 0);
        DUE.is("it fits with a fork and an order less", z.assemble(), 34);
    }

    private static void gotoBackAndForth() {
        int[][] cases = {
            // GOTO, and the timing of the order at q + 1, which is at 6
            {0, 24}, {1, 26}, {2, 31}, {3, 1}};
        for (int[] c : cases) {
            DelayMachine x = program(punch(0), branch(1, c[0]), punch(2), punch(3));
            DUE.is("GOTO " + c[0] + ": assemble()", x.assemble(), 7);
            placed("GOTO " + c[0], x, 0, 2, 7, 9);
            DUE.is("GOTO " + c[0] + ": at q", x.read(0, 5), Orders.single(0, 0, 0, 0));
            DUE.is("GOTO " + c[0] + ": at q + 1", x.read(0, 6), Orders.single(0, 0, 0, c[1]));
        }
        DelayMachine y = program(punch(0), branch(1, 4), punch(2), punch(3));
        DUE.is("GOTO 4, the added stop, is no statement", y.assemble(), -1);
    }

    /** The most orders of a full program with forks, each leading to the last statement. */
    private static void twelveForks() {
        DelayMachine x = new DelayMachine();
        for (int i = 0; i < 12; i++) {
            add(x, branch(i, 11));
        }
        DUE.is("twelve forks: assemble()", x.assemble(), 37);
        placed("twelve forks", x, 0, 5, 10, 15, 20, 25, 30, 35, 40, 45, 50, 55);
    }

    /** "the last one, if it is not 6, at a stop that is added". */
    private static void addedStop() {
        int[] orders = {3, 3, 2, 1, 3, 1, 1};
        for (int operation = 0; operation < 7; operation++) {
            DelayMachine x = program(new int[] {operation, 1, 2, 3, 0});
            int added = operation == 6 ? 0 : 1;
            DUE.is("operation " + operation + " is the last", x.assemble(), orders[operation] + added);
            add(x, 6, 0, 0, 0, 0);
            DUE.is("operation " + operation + " and a stop", x.assemble(), orders[operation] + 1);
            x.start(0, 0);
            x.run(200);
            DUE.is("operation " + operation + ": it stops", x.look(0), 0);
            DUE.is("operation " + operation + ": no fault", x.look(1), 0);
        }
    }
}
