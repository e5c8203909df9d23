/** The MULTIPLIER, and what look(8) says of it. */
public final class MultiplierTest {
    private static final Due DUE = new Due();

    public static void main(String[] args) {
        products();
        steps();
        takesB();
        takesD();
        beginsAnew();
        restsAndStops();
        DUE.end();
    }

    /** The multiplier is started in cycle 2, by the word v. */
    private static DelayMachine started(int v, int b) {
        DelayMachine x = new DelayMachine();
        x.word(2, 2, (short) v);
        x.word(7, 0, (short) b);
        x.word(8, 0, (short) 77);
        x.word(8, 1, (short) 78);
        x.order(0, 0, Orders.single(2, Orders.MULTIPLY, 0, 31));
        x.start(0, 0);
        return x;
    }

    private static int product(DelayMachine x) {
        return x.peek(8, 1) << 16 | x.peek(8, 0) & 0xFFFF;
    }

    private static void products() {
        int[] words = {0, 1, -1, 2, 700, -300, 12345, 32767, -32768};
        for (int v : words) {
            for (int b : words) {
                DelayMachine x = started(v, b);
                x.run(19);
                DUE.is(v + " times " + b, product(x), (v & 0xFFFF) * b);
                DUE.is(v + " times " + b + " at rest", x.look(8), 0);
                x.run(10);
                DUE.is(v + " times " + b + " stays", product(x), (v & 0xFFFF) * b);
            }
        }
    }

    private static void steps() {
        DelayMachine x = started(-32768 + 5, 9);
        DUE.is("at first", x.look(8), 0);
        x.run(2);
        DUE.is("before", x.look(8), 0);
        DUE.is("D before", product(x), 78 << 16 | 77);
        x.run(1);
        DUE.is("started", x.look(8), 16);
        DUE.is("D becomes 0", product(x), 0);
        for (int left = 15; left >= 0; left--) {
            x.run(1);
            DUE.is("left", x.look(8), left);
            DUE.is("D with " + left + " left", product(x), (32773 >> left) * 9);
        }
        x.run(1);
        DUE.is("none is left", x.look(8), 0);
    }

    private static void takesB() {
        DelayMachine x = started(1, 4);
        x.run(18);
        x.word(7, 0, (short) 5);
        x.run(1);
        DUE.is("B as it is in the last step", product(x), 5);
        DelayMachine y = started(1, 4);
        y.order(0, 0, Orders.single(2, Orders.MULTIPLY, 0, 3));
        y.order(0, 5, Orders.single(11, Orders.B, 11, 31));
        y.run(19);
        DUE.is("B moved in the last step's cycle", product(y), -1);
        DelayMachine z = started(1, 4);
        z.order(0, 0, Orders.single(2, Orders.MULTIPLY, 0, 3));
        z.order(0, 5, Orders.single(11, Orders.B, 12, 31));
        z.run(25);
        DUE.is("B moved a cycle later", product(z), 4);
    }

    private static void takesD() {
        DelayMachine x = started(0, 4);
        x.order(0, 0, Orders.single(2, Orders.MULTIPLY, 0, 3));
        x.order(0, 5, Orders.single(1, Orders.D, 11, 31));
        x.run(19);
        DUE.is("moved to D, then doubled", product(x), 2);
        DelayMachine y = started(0, 4);
        y.order(0, 0, Orders.single(2, Orders.MULTIPLY, 0, 3));
        y.order(0, 5, Orders.single(1, Orders.D, 12, 31));
        y.run(25);
        DUE.is("moved to D after the last step", product(y), 65536);
        DelayMachine z = started(3, 4);
        z.order(0, 0, Orders.single(2, Orders.MULTIPLY, 0, 3));
        z.order(0, 5, Orders.single(Orders.D, 5, 11, 31));
        z.run(19);
        DUE.is("moved from D as at the beginning", z.peek(5, 18), 4);
        DUE.is("D at the end", product(z), 12);
    }

    private static void beginsAnew() {
        DelayMachine x = started(-1, 4);
        x.order(0, 0, Orders.single(2, Orders.MULTIPLY, 0, 3));
        x.order(0, 5, Orders.single(2, Orders.MULTIPLY, 0, 31));
        x.word(2, 7, (short) 3);
        x.run(7);
        DUE.is("four steps", product(x), 60);
        x.run(1);
        DUE.is("anew: D", product(x), 0);
        DUE.is("anew: left", x.look(8), 16);
        x.run(15);
        DUE.is("anew: one left", x.look(8), 1);
        x.run(1);
        DUE.is("anew: product", product(x), 12);
        DelayMachine y = started(-1, 4);
        y.order(0, 0, Orders.all(1, Orders.MULTIPLY, 0, 10));
        y.run(13);
        DUE.is("started in each cycle: left", y.look(8), 16);
        DUE.is("started in each cycle: D", product(y), 0);
        y.run(16);
        DUE.is("the last start counts", product(y), 4);
    }

    private static void restsAndStops() {
        DelayMachine x = started(-1, 4);
        x.run(5);
        DUE.is("two steps", product(x), 12);
        x.start(1, 0);
        DUE.is("start: it rests", x.look(8), 0);
        x.run(30);
        DUE.is("start: D stays", product(x), 12);
        DelayMachine y = started(-1, 4);
        y.order(0, 0, Orders.single(2, Orders.MULTIPLY, 0, 0));
        y.order(0, 2, Orders.single(0, Orders.STOP, 1, 31));
        DUE.is("until the stop", y.run(100), 6);
        DUE.is("it works in the cycle of the stop", product(y), 28);
        y.run(100);
        DUE.is("and not behind it", product(y), 28);
        y.start(1, 0);
        DUE.is("after the start it rests", y.look(8), 0);
    }
}
