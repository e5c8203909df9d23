/** The table of sources and destinations (promises 6 and 8 use it). */
public final class WordsTest {
    private static final Due DUE = new Due();

    public static void main(String[] args) {
        sources();
        cycleNumber();
        destinations();
        inEachCycle();
        DUE.end();
    }

    private static DelayMachine filled() {
        DelayMachine x = new DelayMachine();
        for (int line = 2; line <= 5; line++) {
            x.word(line, 2, (short) (11 * line));
            x.word(line, 3, (short) (11 * line + 1));
        }
        x.word(6, 0, (short) -12345);
        x.word(7, 0, (short) 3855);
        x.word(8, 0, (short) 80);
        x.word(8, 1, (short) 81);
        return x;
    }

    private static void sources() {
        int[] want = {0, 1, 22, 33, 44, 55, -12345, 3855, 80, 3847, -16184, -1, -6173, 0, 12344, 2};
        int[] wantLater = {0, 1, 23, 34, 45, 56, -12345, 3855, 81, 3847, -16184, -1, -6173, 0, 12344, 3};
        for (int source = 0; source < 16; source++) {
            DelayMachine x = filled();
            x.order(0, 0, Orders.single(source, 5, 0, 31));
            x.start(0, 0);
            x.run(3);
            DUE.is("source " + source, x.peek(5, 2), want[source]);
            DelayMachine y = filled();
            y.order(0, 0, Orders.single(source, 5, 1, 31));
            y.start(0, 0);
            y.run(4);
            DUE.is("source " + source + " a cycle later", y.peek(5, 3), wantLater[source]);
        }
    }

    private static void cycleNumber() {
        DelayMachine x = new DelayMachine();
        x.order(1, 0, Orders.single(Orders.CYCLE, Orders.A, 0, 31));
        x.start(0, 0);
        for (int i = 0; i < 17; i++) {
            x.run(2000);
        }
        x.start(1, 0);
        x.run(30);
        DUE.is("cycle 34018", x.peek(6, 0), 34018 - 65536);
        x.start(0, 0);
        for (int i = 0; i < 17; i++) {
            x.run(2000);
        }
        int now = x.look(2);
        x.start(1, 0);
        x.run(40);
        int cycle = (now + 31) / 32 * 32 + 2;
        DUE.is("cycle " + cycle, x.peek(6, 0), cycle - 65536);
    }

    /** Moves the word 22 (or, a cycle later, 23) and says what has changed. */
    private static void destinations() {
        for (int destination = 0; destination < 14; destination++) {
            for (int wait = 0; wait < 2; wait++) {
                DelayMachine x = filled();
                x.order(0, 0, Orders.single(2, destination, wait, 31));
                x.start(0, 0);
                DUE.is("destination " + destination + " cycles", x.run(20), destination == 1 ? 3 + wait : 20);
                DUE.is("destination " + destination + " going", x.look(0), destination == 1 ? 0 : 1);
                DUE.is("destination " + destination + " fault", x.look(1), 0);
                compare(x, destination, wait);
            }
        }
        overflow(Orders.ADD, 32767, -32768 + 21);
        overflow(Orders.SUBTRACT, -32768, 32767 - 21);
    }

    private static void compare(DelayMachine x, int destination, int wait) {
        int word = 22 + wait;
        for (int line = 2; line <= 5; line++) {
            for (int place = 0; place < 32; place++) {
                int old = place == 2 || place == 3 ? 11 * line + place - 2 : 0;
                boolean there = destination == line && place == 2 + wait;
                DUE.is("destination " + destination + ": " + line + ", " + place, x.peek(line, place),
                    there ? word : old);
            }
        }
        int a = destination == 6 ? word : destination == 9 ? -12345 + word : destination == 10 ? -12345 - word : -12345;
        DUE.is("destination " + destination + ": A", x.peek(6, 0), a);
        DUE.is("destination " + destination + ": B", x.peek(7, 0), destination == 7 ? word : 3855);
        if (destination != 13) {
            DUE.is("destination " + destination + ": D 0", x.peek(8, 0), destination == 8 && wait == 0 ? word : 80);
            DUE.is("destination " + destination + ": D 1", x.peek(8, 1), destination == 8 && wait == 1 ? word : 81);
        }
    }

    private static void overflow(int destination, int a, int want) {
        DelayMachine x = filled();
        x.word(6, 0, (short) a);
        x.order(0, 0, Orders.single(2, destination, 0, 31));
        x.start(0, 0);
        x.run(3);
        DUE.is("destination " + destination + " beyond 16 bits", x.peek(6, 0), want);
    }

    /** Each cycle of a window moves the word as it is at the beginning of that cycle. */
    private static void inEachCycle() {
        DelayMachine x = new DelayMachine();
        x.word(6, 0, (short) 3);
        x.order(0, 0, Orders.all(Orders.A, Orders.ADD, 0, 4));
        x.start(0, 0);
        x.run(7);
        DUE.is("doubled five times", x.peek(6, 0), 96);
        DelayMachine y = new DelayMachine();
        y.word(6, 0, (short) -7);
        y.order(0, 0, Orders.all(12, Orders.A, 0, 31));
        y.start(0, 0);
        y.run(4);
        DUE.is("shifted twice", y.peek(6, 0), -2);
        y.run(10);
        DUE.is("the sign stays", y.peek(6, 0), -1);
    }
}
