/** Promises 2 order, 3 word, 8 peek, 9 read. */
public final class StoreTest {
    public static void main(String[] args) {
        Due due = new Due();
        orders(due);
        refusedOrders(due);
        words(due);
        refusedWords(due);
        whileGoing(due);
        due.end();
    }

    private static void orders(Due due) {
        DelayMachine x = new DelayMachine();
        for (int place = 0; place < 32; place++) {
            due.is("order(0, " + place + ")", x.order(0, place, 1000 + place), true);
            due.is("order(1, " + place + ")", x.order(1, place, 2000 + place), true);
        }
        for (int place = 0; place < 32; place++) {
            due.is("read(0, " + place + ")", x.read(0, place), 1000 + place);
            due.is("read(1, " + place + ")", x.read(1, place), 2000 + place);
        }
        due.is("the highest order", x.order(1, 31, 2097151), true);
        due.is("the highest order is read", x.read(1, 31), 2097151);
        due.is("the lowest order", x.order(1, 31, 0), true);
        due.is("the lowest order is read", x.read(1, 31), 0);
    }

    private static void refusedOrders(Due due) {
        DelayMachine x = new DelayMachine();
        x.order(0, 0, 77);
        x.order(1, 31, 78);
        int[][] wrong = {{-1, 0, 5}, {2, 0, 5}, {0, -1, 5}, {0, 32, 5}, {1, 32, 5}, {1, -1, 5}, {0, 0, -1},
            {0, 0, 2097152}, {1, 31, Integer.MAX_VALUE}, {1, 31, Integer.MIN_VALUE}, {Integer.MIN_VALUE, 0, 0},
            {0, Integer.MAX_VALUE, 0}};
        for (int[] w : wrong) {
            due.is("order(" + w[0] + ", " + w[1] + ", " + w[2] + ")", x.order(w[0], w[1], w[2]), false);
        }
        for (int place = 0; place < 32; place++) {
            due.is("refused: read(0, " + place + ")", x.read(0, place), place == 0 ? 77 : 0);
            due.is("refused: read(1, " + place + ")", x.read(1, place), place == 31 ? 78 : 0);
        }
        int[][] none = {{-1, 0}, {2, 0}, {3, 5}, {0, -1}, {0, 32}, {1, 32}, {1, -1}, {0, Integer.MIN_VALUE}};
        for (int[] n : none) {
            due.is("read(" + n[0] + ", " + n[1] + ")", x.read(n[0], n[1]), -1);
        }
    }

    private static int places(int line) {
        return line <= 5 ? 32 : line == 8 ? 2 : 1;
    }

    private static void words(Due due) {
        DelayMachine x = new DelayMachine();
        for (int line = 2; line <= 8; line++) {
            for (int place = 0; place < places(line); place++) {
                short v = (short) (-line * 1000 - place);
                due.is("word(" + line + ", " + place + ")", x.word(line, place, v), true);
            }
        }
        for (int line = 2; line <= 8; line++) {
            for (int place = 0; place < places(line); place++) {
                due.is("peek(" + line + ", " + place + ")", x.peek(line, place), -line * 1000 - place);
            }
        }
        x.word(5, 31, Short.MIN_VALUE);
        due.is("the lowest word", x.peek(5, 31), -32768);
        x.word(5, 31, Short.MAX_VALUE);
        due.is("the highest word", x.peek(5, 31), 32767);
    }

    private static void refusedWords(Due due) {
        DelayMachine x = new DelayMachine();
        int[][] wrong = {{-1, 0}, {0, 0}, {1, 0}, {9, 0}, {2, -1}, {2, 32}, {5, -1}, {5, 32}, {6, 1}, {6, -1}, {7, 1},
            {7, -1}, {8, 2}, {8, -1}, {Integer.MAX_VALUE, 0}, {Integer.MIN_VALUE, 0}, {2, Integer.MAX_VALUE}};
        for (int[] w : wrong) {
            due.is("word(" + w[0] + ", " + w[1] + ")", x.word(w[0], w[1], (short) 9), false);
            due.is("peek(" + w[0] + ", " + w[1] + ")", x.peek(w[0], w[1]), 0);
        }
        for (int line = 2; line <= 8; line++) {
            for (int place = 0; place < places(line); place++) {
                due.is("refused: peek(" + line + ", " + place + ")", x.peek(line, place), 0);
            }
        }
    }

    /** Nothing forbids to put orders and words while it is going; an order that was read stays as it was read. */
    private static void whileGoing(Due due) {
        DelayMachine x = new DelayMachine();
        x.order(0, 0, Orders.single(2, Orders.A, 1, 2));
        x.start(0, 0);
        x.run(1);
        due.is("going: order", x.order(0, 0, Orders.stop()), true);
        due.is("going: next order", x.order(0, 4, Orders.stop()), true);
        due.is("going: word", x.word(2, 3, (short) 12), true);
        due.is("going: run", x.run(100), 6);
        due.is("going: the order read before", x.peek(6, 0), 12);
    }
}
