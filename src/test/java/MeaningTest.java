import java.util.ArrayList;
import java.util.List;
import java.util.Random;

/**
 * "0: c is a + b. 1: c is a - b. 2: c is a. 3: a is punched. 4: if a is below 0, on at GOTO. 5: c is the row that can
 * be read then. 6: stop.": random programs are assembled and run, and their statements gone through one by one by an
 * interpreter that knows nothing of places and cycles. The seeds are fixed, so every run is the same.
 */
public final class MeaningTest {
    private static final int PROGRAMS = 4000;
    private static final int MOST_STEPS = 200;
    /** A statement has three orders at most, and an order takes less than 66 cycles. */
    private static final int RUNS_OF_2000 = MOST_STEPS * 3 * 66 / 2000 + 1;
    private static final Due DUE = new Due();
    private static int compared;
    private static int branched;

    private final Random random;
    private final String name;
    private final DelayMachine x = new DelayMachine();
    private final int[][] statements;
    private final short[] variables = new short[16];
    private final List<Short> punched = new ArrayList<>();
    private int branches;

    private MeaningTest(int seed) {
        random = new Random(seed);
        name = "program " + seed + ": ";
        statements = new int[1 + random.nextInt(12)][];
    }

    public static void main(String[] args) {
        for (int seed = 0; seed < PROGRAMS; seed++) {
            new MeaningTest(seed).go();
        }
        DUE.is("many programs came to their end", compared > PROGRAMS / 2, true);
        DUE.is("many branches went on at their GOTO", branched > PROGRAMS / 10, true);
        DUE.end();
    }

    private void go() {
        for (int i = 0; i < statements.length; i++) {
            int[] s = {someOperation(), someVariable(), someVariable(), someVariable(),
                random.nextInt(statements.length)};
            statements[i] = s;
            DUE.is(name + "statement", x.statement(s[0], s[1], s[2], s[3], s[4]), i);
        }
        if (x.assemble() < 0) {
            return;
        }
        for (int v = 0; v < variables.length; v++) {
            // a variable that no statement uses has no place, and word() refuses it
            variables[v] = x.word(2, x.variable(v), someWord()) ? x.peek(2, x.variable(v)) : 0;
        }
        if (interpret()) {
            compared++;
            branched += branches;
            runAndCompare();
        }
    }

    /** Seldom a stop, so that most programs go on for a while. */
    private int someOperation() {
        return random.nextInt(random.nextInt(4) == 0 ? 7 : 5);
    }

    private int someVariable() {
        return random.nextInt(random.nextInt(3) == 0 ? 16 : 4);
    }

    private short someWord() {
        return (short) (random.nextInt(4) == 0 ? random.nextInt() : random.nextInt(40) - 20);
    }

    /** Whether it came to a stop. */
    private boolean interpret() {
        int at = 0;
        for (int step = 0; step < MOST_STEPS; step++) {
            if (at >= statements.length || statements[at][0] == 6) {
                return true;
            }
            at = stepOf(statements[at], at);
        }
        return false;
    }

    private int stepOf(int[] s, int at) {
        short a = variables[s[1]];
        short b = variables[s[2]];
        switch (s[0]) {
            case 0: variables[s[3]] = (short) (a + b); break;
            case 1: variables[s[3]] = (short) (a - b); break;
            case 2: variables[s[3]] = a; break;
            case 3: punched.add(a); break;
            case 4: branches += a < 0 ? 1 : 0; return a < 0 ? s[4] : at + 1;
            default: variables[s[3]] = 0; break;
        }
        return at + 1;
    }

    private void runAndCompare() {
        x.start(x.placed(0) / 32, x.placed(0) % 32);
        for (int i = 0; i < RUNS_OF_2000; i++) {
            x.run(2000);
        }
        DUE.is(name + "it stopped", x.look(0), 0);
        int rows = Math.min(x.look(7), punched.size());
        for (int i = 0; i < rows; i++) {
            DUE.is(name + "punched(" + i + ")", x.punched(i), punched.get(i));
        }
        if (x.look(1) == 3) {
            // two statements that punch can come too close to each other, or punch too many rows
            DUE.is(name + "a row was left", x.look(7) < punched.size(), true);
            return;
        }
        DUE.is(name + "fault", x.look(1), 0);
        DUE.is(name + "rows", x.look(7), punched.size());
        for (int v = 0; v < variables.length; v++) {
            if (x.variable(v) >= 0) {
                DUE.is(name + "variable " + v, x.peek(2, x.variable(v)), variables[v]);
            }
        }
    }
}
