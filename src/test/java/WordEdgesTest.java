/** The edges in the tables SOURCES and DESTINATIONS. */
public final class WordEdgesTest {
    private static final Due DUE = new Due();

    public static void main(String[] args) {
        constants();
        bitByBit();
        shiftedRight();
        allBitsTurned();
        lowestBitsOfTheCycle();
        rowIsZeroWithoutCard();
        movedToNothing();
        stops();
        stopsInEachKind();
        addedInSixteenBits();
        subtractedInSixteenBits();
        fromAndToTheSameLine();
        DUE.end();
    }

    /** Answers the word of a source in cycle 2, with these words in A and B. */
    private static int moved(int source, int a, int b) {
        DelayMachine x = new DelayMachine();
        x.word(6, 0, (short) a);
        x.word(7, 0, (short) b);
        x.word(5, 2, (short) 4321);
        x.order(0, 0, Orders.single(source, 5, 0, 31));
        x.start(0, 0);
        x.run(3);
        DUE.is("source " + source + " leaves A", x.peek(6, 0), a);
        DUE.is("source " + source + " leaves B", x.peek(7, 0), b);
        return x.peek(5, 2);
    }

    /** "0: 0. 1: 1." and "11: -1", whatever A and B are. */
    private static void constants() {
        int[] words = {-32768, -1, 0, 32767};
        for (int word : words) {
            DUE.is("source 0", moved(0, word, word), 0);
            DUE.is("source 1", moved(1, word, word), 1);
            DUE.is("source 11", moved(11, word, word), -1);
        }
    }

    /** "9 A and B, 10 A xor B (bit by bit)". */
    private static void bitByBit() {
        int[][] cases = {
            // A, B, A and B, A xor B
            {0, 0, 0, 0}, {-1, -1, -1, 0}, {-1, 0, 0, -1}, {0, -1, 0, -1}, {-32768, 32767, 0, -1},
            {-32768, -1, -32768, 32767}, {32767, -1, 32767, -32768}, {-32768, -32768, -32768, 0}, {5, 3, 1, 6}};
        for (int[] c : cases) {
            DUE.is(c[0] + " and " + c[1], moved(9, c[0], c[1]), c[2]);
            DUE.is(c[0] + " xor " + c[1], moved(10, c[0], c[1]), c[3]);
        }
    }

    /** "12 A shifted right by one (the sign stays)". */
    private static void shiftedRight() {
        int[][] cases = {{0, 0}, {1, 0}, {2, 1}, {3, 1}, {32767, 16383}, {-1, -1}, {-2, -1}, {-3, -2},
            {-32768, -16384}, {-32767, -16384}};
        for (int[] c : cases) {
            DUE.is(c[0] + " shifted right", moved(12, c[0], 77), c[1]);
        }
    }

    /** "14 all bits of A turned". */
    private static void allBitsTurned() {
        int[][] cases = {{0, -1}, {-1, 0}, {32767, -32768}, {-32768, 32767}, {1, -2}, {-2, 1}};
        for (int[] c : cases) {
            DUE.is(c[0] + " turned", moved(14, c[0], 77), c[1]);
        }
    }

    /** "15 the lowest 16 bits of the cycle's number": 32767 and 65535 are the last before it changes its sign. */
    private static void lowestBitsOfTheCycle() {
        DelayMachine x = new DelayMachine();
        x.order(1, 29, Orders.all(Orders.CYCLE, 5, 0, 1));
        cycleNumber(x, 32767, 32767, -32768);
        cycleNumber(x, 65535, -1, 0);
        cycleNumber(x, 65567, 31, 32);
        DelayMachine y = new DelayMachine();
        y.order(1, 29, Orders.all(Orders.CYCLE, 5, 0, 1));
        cycleNumber(y, 31, 31, 32);
        cycleNumber(y, 98303, 32767, -32768);
    }

    /** Goes on until the number of the cycle has been moved in the given one, whose place is 31, and in the next. */
    private static void cycleNumber(DelayMachine x, int cycle, int here, int next) {
        x.start(0, 0);
        for (int now = x.look(2); now < cycle - 20; now = x.look(2)) {
            x.run(Math.min(2000, cycle - 20 - now));
        }
        x.start(1, 29);
        x.run(cycle + 2 - x.look(2));
        DUE.is("the number of cycle " + cycle, x.peek(5, 31), here);
        DUE.is("the number of cycle " + (cycle + 1), x.peek(5, 0), next);
    }

    /** "13 the ROW of the reader", "which is 0 else": with no deck, and with a deck that is not fed. */
    private static void rowIsZeroWithoutCard() {
        DUE.is("no deck", moved(Orders.ROW, 5, 5), 0);
        DelayMachine x = new DelayMachine();
        for (int i = 0; i < 48; i++) {
            x.card((short) 99);
        }
        x.order(0, 0, Orders.all(Orders.ROW, Orders.A, 0, 31));
        x.word(6, 0, (short) 5);
        x.start(0, 0);
        x.run(3);
        DUE.is("a deck that is not fed", x.peek(6, 0), 0);
        DUE.is("its rows are left", x.look(6), 48);
    }

    /** "0 nothing". */
    private static void movedToNothing() {
        for (int source = 0; source < 16; source++) {
            DelayMachine x = new DelayMachine();
            x.word(6, 0, (short) 5);
            x.word(7, 0, (short) 6);
            x.word(8, 0, (short) 7);
            x.word(8, 1, (short) 8);
            x.order(0, 0, Orders.all(source, Orders.NOTHING, 0, 31));
            x.start(0, 0);
            String name = "source " + source + " to nothing";
            DUE.is(name + " goes on", x.run(33), 33);
            DUE.is(name + ": orders", x.look(5), 1);
            DUE.is(name + ": A", x.peek(6, 0), 5);
            DUE.is(name + ": B", x.peek(7, 0), 6);
            DUE.is(name + ": D 0", x.peek(8, 0), 7);
            DUE.is(name + ": D 1", x.peek(8, 1), 8);
            DUE.is(name + ": line 2", x.peek(2, 2), 0);
            DUE.is(name + ": punched", x.look(7), 0);
            DUE.is(name + ": fault", x.look(1), 0);
        }
    }

    /** "1: the machine STOPS", whatever the word is, and not before. */
    private static void stops() {
        int[] sources = {0, 1, 11, Orders.A};
        for (int source : sources) {
            DelayMachine x = new DelayMachine();
            x.order(0, 0, Orders.single(source, Orders.STOP, 31, 31));
            x.start(0, 0);
            x.run(33);
            DUE.is("it is going before the cycle", x.look(0), 1);
            DUE.is("the cycle of the stop", x.run(1), 1);
            DUE.is("it is stopped behind it", x.look(0), 0);
            DUE.is("without a fault", x.look(1), 0);
            DUE.is("it goes no further", x.run(1), 0);
        }
    }

    /** A window of more cycles is left in its first one. */
    private static void stopsInEachKind() {
        for (int kind = 0; kind < 4; kind++) {
            DelayMachine x = new DelayMachine();
            x.order(0, 0, Orders.order(0, Orders.STOP, kind, 0, 31, 0));
            x.start(0, 0);
            DUE.is("stopped by kind " + kind, x.run(50), 3);
        }
    }

    private static int worked(int destination, int a, int word) {
        DelayMachine x = new DelayMachine();
        x.word(6, 0, (short) a);
        x.word(4, 2, (short) word);
        x.order(0, 0, Orders.single(4, destination, 0, 31));
        x.start(0, 0);
        x.run(3);
        DUE.is("the source stays", x.peek(4, 2), word);
        return x.peek(6, 0);
    }

    /** "9 added to A (the lowest 16 bits)". */
    private static void addedInSixteenBits() {
        int[][] cases = {{32766, 1, 32767}, {32767, 1, -32768}, {-32767, -1, -32768}, {-32768, -1, 32767},
            {32767, 32767, -2}, {-32768, -32768, 0}, {-32768, 32767, -1}, {0, 0, 0}};
        for (int[] c : cases) {
            DUE.is(c[0] + " + " + c[1], worked(Orders.ADD, c[0], c[1]), c[2]);
        }
    }

    /** "10 subtracted from A (the lowest 16 bits)". */
    private static void subtractedInSixteenBits() {
        int[][] cases = {{-32767, 1, -32768}, {-32768, 1, 32767}, {32766, -1, 32767}, {32767, -1, -32768},
            {0, -32768, -32768}, {-1, -32768, 32767}, {-32768, 32767, 1}, {32767, -32768, -1}, {0, 0, 0}};
        for (int[] c : cases) {
            DUE.is(c[0] + " - " + c[1], worked(Orders.SUBTRACT, c[0], c[1]), c[2]);
        }
    }

    /** A line as both: the word comes back to the place from which it was taken. */
    private static void fromAndToTheSameLine() {
        for (int line = 2; line <= 8; line++) {
            DelayMachine x = new DelayMachine();
            int place = line <= 5 ? 2 : 0;
            x.word(line, place, (short) -9);
            x.order(0, 0, Orders.single(line, line, 0, 31));
            x.start(0, 0);
            x.run(3);
            DUE.is("line " + line + " to itself", x.peek(line, place), -9);
            DUE.is("line " + line + " to itself, the place behind", x.peek(line, place + 1), 0);
        }
    }
}
