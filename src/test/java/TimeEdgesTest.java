/** The edges under TIME: the number of the cycle, and which place a line presents when it goes round. */
public final class TimeEdgesTest {
    private static final Due DUE = new Due();

    public static void main(String[] args) {
        nowIsTheCycleThatComesNext();
        nowStaysWhileItIsStopped();
        wordLinesGoRoundAsDestinations();
        wordLinesGoRoundAsSources();
        doubleLineGoesRound();
        singleLinesArePresentedAlways();
        orderLinesGoRound();
        wordsFromLowestToHighest();
        DUE.end();
    }

    /** "NOW is the number of the cycle that comes next, 0 at first." */
    private static void nowIsTheCycleThatComesNext() {
        DelayMachine x = new DelayMachine();
        DUE.is("NOW at first", x.look(2), 0);
        x.start(0, 5);
        DUE.is("NOW after start", x.look(2), 0);
        x.run(0);
        DUE.is("NOW after run(0)", x.look(2), 0);
        x.run(1);
        DUE.is("NOW after one cycle", x.look(2), 1);
        x.run(31);
        DUE.is("NOW after 32 cycles", x.look(2), 32);
        x.run(2000);
        DUE.is("NOW after 2032 cycles", x.look(2), 2032);
        x.start(1, 31);
        DUE.is("NOW after another start", x.look(2), 2032);
    }

    private static void nowStaysWhileItIsStopped() {
        DelayMachine x = new DelayMachine();
        x.run(9);
        DUE.is("NOW when it was never started", x.look(2), 0);
        x.order(0, 0, Orders.stop());
        x.start(0, 0);
        x.run(9);
        DUE.is("NOW behind the stop in cycle 2", x.look(2), 3);
        x.run(9);
        DUE.is("NOW when it is stopped", x.look(2), 3);
    }

    /** An order of line 1 that is read at cycle 28 and moves in the cycles 30 to 34. */
    private static DelayMachine roundTheEnd(int source, int destination) {
        DelayMachine x = new DelayMachine();
        x.order(1, 28, Orders.all(source, destination, 0, 4));
        x.start(1, 28);
        return x;
    }

    /** "A line of n places PRESENTS at cycle t its place t mod n." */
    private static void wordLinesGoRoundAsDestinations() {
        for (int line = 2; line <= 5; line++) {
            DelayMachine x = roundTheEnd(Orders.CYCLE, line);
            x.run(35);
            for (int place = 0; place < 32; place++) {
                int want = place >= 30 ? place : place <= 2 ? 32 + place : 0;
                DUE.is("line " + line + " as destination, place " + place, x.peek(line, place), want);
            }
        }
    }

    private static void wordLinesGoRoundAsSources() {
        for (int line = 2; line <= 5; line++) {
            DelayMachine x = roundTheEnd(line, Orders.A);
            for (int place = 0; place < 32; place++) {
                x.word(line, place, (short) (500 + place));
            }
            x.run(30);
            for (int cycle = 30; cycle <= 34; cycle++) {
                x.run(1);
                DUE.is("line " + line + " as source at cycle " + cycle, x.peek(6, 0), 500 + cycle % 32);
            }
        }
    }

    private static void doubleLineGoesRound() {
        DelayMachine x = roundTheEnd(Orders.D, Orders.A);
        x.word(8, 0, (short) 70);
        x.word(8, 1, (short) 71);
        x.run(30);
        for (int cycle = 30; cycle <= 34; cycle++) {
            x.run(1);
            DUE.is("D as source at cycle " + cycle, x.peek(6, 0), 70 + cycle % 2);
        }
        DelayMachine y = roundTheEnd(Orders.CYCLE, Orders.D);
        int[][] want = {{30, 0}, {30, 31}, {32, 31}, {32, 33}, {34, 33}};
        y.run(30);
        for (int[] w : want) {
            y.run(1);
            DUE.is("D as destination, place 0", y.peek(8, 0), w[0]);
            DUE.is("D as destination, place 1", y.peek(8, 1), w[1]);
        }
    }

    private static void singleLinesArePresentedAlways() {
        int[] lines = {Orders.A, Orders.B};
        for (int line : lines) {
            DelayMachine x = roundTheEnd(Orders.CYCLE, line);
            DelayMachine y = roundTheEnd(line, 5);
            y.word(line, 0, (short) 900);
            x.run(30);
            y.run(30);
            for (int cycle = 30; cycle <= 34; cycle++) {
                x.run(1);
                y.run(1);
                DUE.is("line " + line + " as destination at cycle " + cycle, x.peek(line, 0), cycle);
                DUE.is("line " + line + " as source at cycle " + cycle, y.peek(5, cycle % 32), 900);
            }
        }
    }

    /** "ORDER LINES 0 and 1 have 32 orders each": place 0 is read behind place 31. */
    private static void orderLinesGoRound() {
        int[][] cases = {{29, 0, 31}, {30, 0, 0}, {31, 0, 1}, {31, 29, 30}, {31, 30, 31}, {31, 31, 0}, {0, 29, 31},
            {0, 30, 0}};
        for (int[] c : cases) {
            for (int line = 0; line < 2; line++) {
                DelayMachine x = new DelayMachine();
                x.order(1 - line, c[0], Orders.order(0, 0, 0, 0, c[1], line));
                x.order(line, c[2], Orders.stop());
                x.start(1 - line, c[0]);
                String name = "from place " + c[0] + " with timing " + c[1];
                DUE.is(name + ": cycles", x.run(200), c[0] + 2 + c[1] + 3);
                DUE.is(name + ": line", x.look(3), line);
                DUE.is(name + ": place", x.look(4), c[2]);
                DUE.is(name + ": orders", x.look(5), 2);
            }
        }
    }

    /** "WORDS (16 bits, from -32768 to 32767)": in each line, put there and moved there. */
    private static void wordsFromLowestToHighest() {
        short[] words = {-32768, -1, 0, 1, 32767};
        for (int line = 2; line <= 8; line++) {
            for (short word : words) {
                DelayMachine x = new DelayMachine();
                x.word(line, 0, word);
                DUE.is("put into line " + line, x.peek(line, 0), word);
                DelayMachine y = new DelayMachine();
                y.word(line == 2 ? 3 : 2, 2, word);
                y.order(0, 0, Orders.single(line == 2 ? 3 : 2, line, 0, 31));
                y.start(0, 0);
                y.run(3);
                DUE.is("moved to line " + line, y.peek(line, line <= 5 ? 2 : 0), word);
            }
        }
    }
}
