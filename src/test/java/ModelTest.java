import java.util.Random;

/** All promises: random runs of calls, the program beside PlainModel; the seeds are fixed, so every run is the same. */
public final class ModelTest {
    private static final int RUNS = 6000;
    private static final int CALLS = 512;
    /** How many calls ask for all that can be asked. */
    private static final int WHOLE = 293;

    private final Due due;
    private final Random random;
    private final int run;
    private final DelayMachine x = new DelayMachine();
    private final PlainModel model = new PlainModel();
    private int calls;
    private int tour;

    private ModelTest(Due due, int run) {
        this.due = due;
        this.run = run;
        random = new Random(run);
    }

    public static void main(String[] args) {
        Due due = new Due();
        for (int run = 0; run < RUNS && due.wrong() < 20; run++) {
            new ModelTest(due, run).go();
        }
        due.end();
    }

    /** Either it is asked for something now and then, or for all at the end. */
    private void go() {
        boolean wholeAtEnd = run / 12 % 2 == 0;
        if (run % 3 != 0) {
            fillOrders();
            fillDeck();
        }
        while (calls < (wholeAtEnd ? CALLS - WHOLE : CALLS)) {
            if (!wholeAtEnd && below(3) == 0) {
                ask();
            } else if (run % 3 == 0) {
                assemblerCall();
            } else {
                machineCall();
            }
        }
        if (wholeAtEnd) {
            askForAll();
        }
    }

    /** Writes its text only when it is needed: there are many of these. */
    private void same(String call, long got, long want) {
        calls++;
        due.is(got == want ? call : "run " + run + ", call " + calls + ": " + call, got, want);
    }

    private void same(String call, boolean got, boolean want) {
        same(call, got ? 1 : 0, want ? 1 : 0);
    }

    private int below(int n) {
        return random.nextInt(n);
    }

    /** Mostly within 0 .. n - 1, now and then just outside or far away. */
    private int near(int n) {
        switch (below(20)) {
            case 0: return -1;
            case 1: return n;
            case 2: return random.nextInt();
            default: return below(n);
        }
    }

    private short someWord() {
        short[] words = {0, 1, -1, 32767, -32768};
        return below(3) == 0 ? words[below(words.length)] : (short) random.nextInt();
    }

    private int someOrder() {
        int destination = below(16);
        if (below(8) != 0 && (destination == 1 || destination == 15)) {
            destination = below(15) + 1;
        }
        int source = below(6) == 0 ? 13 : below(16);
        int wait = below(3) == 0 ? below(32) : below(4);
        int timing = below(3) == 0 ? below(32) : below(3) == 0 ? wait : below(8);
        return Orders.order(source, destination, below(4), wait, timing, below(2));
    }

    /** Orders that wait for rows, so that cards are read through and not always missed. */
    private int rowOrder() {
        int destination = new int[] {0, 2, 3, 4, 5, 6, 7, 8, 9, 13}[below(10)];
        return Orders.order(13, destination, 2, 0, below(3) == 0 ? below(32) : 30 + below(2), below(2));
    }

    private void fillOrders() {
        boolean rows = run % 3 == 2;
        for (int line = 0; line < 2; line++) {
            for (int place = 0; place < 32; place++) {
                int order = rows && below(4) != 0 ? rowOrder() : someOrder();
                if (rows && below(12) == 0) {
                    order = Orders.single(1, Orders.FEED, 0, below(32));
                }
                same("order", x.order(line, place, order), model.order(line, place, order));
            }
        }
    }

    private void fillDeck() {
        for (int i = below(49); i > 0; i--) {
            cardCall();
        }
    }

    private void cardCall() {
        short row = someWord();
        same("card", x.card(row), model.card(row));
    }

    private void wordCall() {
        int line = below(4) == 0 ? near(9) : 2 + below(7);
        int place = line < 6 ? near(32) : near(line == 8 ? 2 : 1);
        short v = someWord();
        same("word", x.word(line, place, v), model.word(line, place, v));
    }

    private void orderCall() {
        int line = near(2);
        int place = near(32);
        int order = below(10) == 0 ? near(2097152) : someOrder();
        same("order", x.order(line, place, order), model.order(line, place, order));
    }

    private void startCall() {
        int line = near(2);
        int place = near(32);
        same("start", x.start(line, place), model.start(line, place));
    }

    private void runCall() {
        int n = below(10) == 0 ? near(2001) : below(3) == 0 ? below(200) : below(20);
        same("run", x.run(n), model.run(n));
    }

    private void machineCall() {
        switch (below(16)) {
            case 0:
                orderCall();
                break;
            case 1:
            case 2:
                wordCall();
                break;
            case 3:
                cardCall();
                break;
            case 4:
                if (model.look(0) == 0 || below(5) == 0) {
                    startCall();
                }
                break;
            case 5:
                if (model.look(0) == 0) {
                    startCall();
                }
                break;
            default:
                runCall();
                break;
        }
    }

    private void statementCall() {
        if (run % 4 == 0 && below(12) != 0) {
            tourCall();
            return;
        }
        int operation = run % 2 == 0 && below(2) == 0 ? 4 : near(7);
        int spread = below(4) == 0 ? 16 : 5;
        int a = near(spread);
        int b = below(spread);
        int c = below(spread);
        int go = below(8) == 0 ? near(12) : below(3);
        same("statement", x.statement(operation, a, b, c, go), model.statement(operation, a, b, c, go));
    }

    /** Sums over all variables in turn, which fill every second place, so that now and then a fork does not fit. */
    private void tourCall() {
        int operation = tour >= 28 ? 4 : 0;
        int a = (tour + (below(30) == 0 ? 1 : 0)) % 16;
        int b = (tour + 1) % 16;
        int c = (tour + 2) % 16;
        tour += 3;
        same("statement", x.statement(operation, a, b, c, 0), model.statement(operation, a, b, c, 0));
    }

    private void assemblerCall() {
        switch (below(24)) {
            case 0:
                x.clear();
                model.clear();
                tour = 0;
                calls++;
                break;
            case 1:
            case 2:
                same("assemble()", x.assemble(), model.assemble());
                break;
            case 3:
                startCall();
                break;
            case 4:
                orderCall();
                break;
            case 5:
                cardCall();
                break;
            case 6:
            case 7:
                wordCall();
                break;
            case 8:
            case 9:
            case 10:
                runCall();
                break;
            default:
                statementCall();
                break;
        }
    }

    private void ask() {
        switch (below(6)) {
            case 0:
                askPeek(2 + below(7), near(32));
                break;
            case 1:
                askRead(near(2), near(32));
                break;
            case 2:
                askPunched(near(61));
                break;
            case 3:
                askPlaced(near(12));
                break;
            case 4:
                askVariable(near(16));
                break;
            default:
                askLook(near(9));
                break;
        }
    }

    private void askForAll() {
        for (int what = 0; what <= 8; what++) {
            askLook(what);
        }
        for (int place = 0; place < 32; place++) {
            askRead(0, place);
            askRead(1, place);
        }
        for (int line = 2; line <= 8; line++) {
            for (int place = 0; place < (line <= 5 ? 32 : line == 8 ? 2 : 1); place++) {
                askPeek(line, place);
            }
        }
        for (int i = 0; i < 60; i++) {
            askPunched(i);
        }
        for (int i = 0; i < 12; i++) {
            askPlaced(i);
        }
        for (int v = 0; v < 16; v++) {
            askVariable(v);
        }
    }

    /** The document does not say what look(8) answers of a machine that is stopped. */
    private void askLook(int what) {
        int got = x.look(what);
        boolean said = what != 8 || model.look(0) == 1;
        same("look", got, said ? model.look(what) : got);
    }

    private void askPeek(int line, int place) {
        same("peek", x.peek(line, place), model.peek(line, place));
    }

    private void askRead(int line, int place) {
        same("read", x.read(line, place), model.read(line, place));
    }

    private void askPunched(int i) {
        same("punched", x.punched(i), model.punched(i));
    }

    private void askPlaced(int statement) {
        same("placed", x.placed(statement), model.placed(statement));
    }

    private void askVariable(int v) {
        same("variable", x.variable(v), model.variable(v));
    }
}
