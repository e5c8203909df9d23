/** The edges of promises 1 to 10: the last value that is taken and the first that is not, on each side. */
public final class CallEdgesTest {
    private static final Due DUE = new Due();
    private static final int LEAST = Integer.MIN_VALUE;
    private static final int MOST = Integer.MAX_VALUE;
    /** Lines and places that are no word. */
    private static final int[][] NO_WORD = {{1, 0}, {1, 2}, {0, 0}, {-1, 0}, {9, 0}, {10, 0}, {LEAST, 0}, {MOST, 0},
        {2, -1}, {2, 32}, {3, -1}, {3, 32}, {4, -1}, {4, 32}, {5, -1}, {5, 32}, {5, 33}, {6, -1}, {6, 1}, {7, -1},
        {7, 1}, {8, -1}, {8, 2}, {2, LEAST}, {5, MOST}, {6, LEAST}, {7, MOST}, {8, LEAST}, {8, MOST}};
    /** Lines and places that are no order. */
    private static final int[][] NO_ORDER = {{-1, 0}, {2, 0}, {-1, 31}, {2, 31}, {0, -1}, {0, 32}, {1, -1}, {1, 32},
        {LEAST, 0}, {MOST, 0}, {0, LEAST}, {0, MOST}, {1, LEAST}, {1, MOST}};

    public static void main(String[] args) {
        newObjectDoesNothing();
        ordersThatAreTaken();
        ordersThatAreRefused();
        wordsThatAreTaken();
        wordsThatAreRefused();
        fortyEightRows();
        fortyEightRowsHaveCome();
        startsThatAreTaken();
        startsThatAreRefused();
        startsAtTheFirstCycle();
        startsBeforeItHasRead();
        startLeavesTheRest();
        cyclesOfARun();
        runUntilItStopped();
        runWhenItIsNotGoing();
        looks();
        looksOfTheLatestRun();
        noWordIsZero();
        noOrderIsMinusOne();
        rowsPunched();
        DUE.end();
    }

    /** "All 0; no cards, no statements; the machine is not started." */
    private static void newObjectDoesNothing() {
        DelayMachine x = new DelayMachine();
        DUE.is("new: run(2000)", x.run(2000), 0);
        DUE.is("new: going", x.look(0), 0);
        DUE.is("new: NOW", x.look(2), 0);
        DUE.is("new: no order was read", x.look(5), 0);
        DUE.is("new: no cards", x.look(6), 0);
        DUE.is("new: no statements", x.assemble(), -1);
    }

    /** Promise 2: line 0 or 1, place 0 .. 31, order 0 .. 2097151. */
    private static void ordersThatAreTaken() {
        int[] places = {0, 1, 30, 31};
        int[] orders = {2097151, 2097150, 1, 0};
        DelayMachine x = new DelayMachine();
        for (int line = 0; line <= 1; line++) {
            for (int place : places) {
                for (int order : orders) {
                    String name = "order(" + line + ", " + place + ", " + order + ")";
                    DUE.is(name, x.order(line, place, order), true);
                    DUE.is(name + " is read", x.read(line, place), order);
                }
            }
        }
    }

    private static DelayMachine fullOfOrders() {
        DelayMachine x = new DelayMachine();
        for (int place = 0; place < 32; place++) {
            x.order(0, place, 1000 + place);
            x.order(1, place, 2000 + place);
        }
        return x;
    }

    private static void ordersStay(String name, DelayMachine x) {
        for (int place = 0; place < 32; place++) {
            DUE.is(name + ": read(0, " + place + ")", x.read(0, place), 1000 + place);
            DUE.is(name + ": read(1, " + place + ")", x.read(1, place), 2000 + place);
        }
    }

    private static void ordersThatAreRefused() {
        DelayMachine x = fullOfOrders();
        for (int[] n : NO_ORDER) {
            DUE.is("order(" + n[0] + ", " + n[1] + ", 5)", x.order(n[0], n[1], 5), false);
        }
        int[] orders = {-1, 2097152, LEAST, MOST};
        for (int order : orders) {
            DUE.is("order(0, 0, " + order + ")", x.order(0, 0, order), false);
            DUE.is("order(1, 31, " + order + ")", x.order(1, 31, order), false);
        }
        ordersStay("refused", x);
    }

    private static int places(int line) {
        return line <= 5 ? 32 : line == 8 ? 2 : 1;
    }

    /** Promise 3: "line 2 .. 5, or A, B (line 6, 7, place 0), or D (line 8, place 0 or 1)". */
    private static void wordsThatAreTaken() {
        short[] words = {32767, -32768, -1};
        for (int line = 2; line <= 8; line++) {
            int[] edges = {0, places(line) - 1};
            for (int place : edges) {
                DelayMachine x = new DelayMachine();
                for (short word : words) {
                    String name = "word(" + line + ", " + place + ", " + word + ")";
                    DUE.is(name, x.word(line, place, word), true);
                    DUE.is(name + " is there", x.peek(line, place), word);
                }
                wordsAreZeroBut(x, line, place);
            }
        }
    }

    private static void wordsAreZeroBut(DelayMachine x, int thatLine, int thatPlace) {
        for (int line = 2; line <= 8; line++) {
            for (int place = 0; place < places(line); place++) {
                int want = line == thatLine && place == thatPlace ? -1 : 0;
                DUE.is("peek(" + line + ", " + place + ")", x.peek(line, place), want);
            }
        }
    }

    private static DelayMachine fullOfWords() {
        DelayMachine x = new DelayMachine();
        for (int line = 2; line <= 8; line++) {
            for (int place = 0; place < places(line); place++) {
                x.word(line, place, (short) (line * 100 + place));
            }
        }
        return x;
    }

    private static void wordsThatAreRefused() {
        DelayMachine x = fullOfWords();
        for (int[] n : NO_WORD) {
            DUE.is("word(" + n[0] + ", " + n[1] + ", -9)", x.word(n[0], n[1], (short) -9), false);
        }
        for (int line = 2; line <= 8; line++) {
            for (int place = 0; place < places(line); place++) {
                DUE.is("refused: peek(" + line + ", " + place + ")", x.peek(line, place), line * 100 + place);
            }
        }
    }

    /** Promise 4: "False if 48 have come so far." */
    private static void fortyEightRows() {
        DelayMachine x = new DelayMachine();
        for (int i = 0; i < 48; i++) {
            DUE.is("row " + i, x.card((short) (i % 2 == 0 ? -32768 : 32767)), true);
            DUE.is("left after row " + i, x.look(6), i + 1);
        }
        DUE.is("row 48", x.card((short) 1), false);
        DUE.is("left after row 48", x.look(6), 48);
        DUE.is("row 48 again", x.card((short) 0), false);
    }

    /** 48 have come although 12 of them are gone; 47 have come, and the 48th is taken when 36 are gone. */
    private static void fortyEightRowsHaveCome() {
        DelayMachine x = new DelayMachine();
        for (int i = 0; i < 47; i++) {
            x.card((short) i);
        }
        x.order(0, 0, Orders.single(0, Orders.FEED, 0, 31));
        for (int left = 35; left >= 11; left -= 12) {
            x.start(0, 0);
            x.run(35);
            DUE.is("left", x.look(6), left);
        }
        DUE.is("the 48th", x.card((short) 1), true);
        DUE.is("left with the 48th", x.look(6), 12);
        DUE.is("the 49th", x.card((short) 1), false);
        x.start(0, 0);
        x.run(35);
        DUE.is("left at the end", x.look(6), 0);
        DUE.is("the 49th to an empty deck", x.card((short) 1), false);
        DUE.is("the deck is empty", x.look(6), 0);
    }

    /** Promise 5: "False if there is no such order." */
    private static void startsThatAreTaken() {
        int[] places = {0, 31};
        for (int line = 0; line <= 1; line++) {
            for (int place : places) {
                DelayMachine x = new DelayMachine();
                String name = "start(" + line + ", " + place + ")";
                DUE.is(name, x.start(line, place), true);
                DUE.is(name + " is going", x.look(0), 1);
                x.run(place + 1);
                DUE.is(name + " line", x.look(3), line);
                DUE.is(name + " place", x.look(4), place);
            }
        }
    }

    private static void startsThatAreRefused() {
        for (int[] n : NO_ORDER) {
            DelayMachine x = new DelayMachine();
            String name = "start(" + n[0] + ", " + n[1] + ")";
            DUE.is(name, x.start(n[0], n[1]), false);
            DUE.is(name + " is not going", x.look(0), 0);
            DUE.is(name + ": run(100)", x.run(100), 0);
            x.start(1, 3);
            x.run(6);
            DUE.is(name + " while it is going", x.start(n[0], n[1]), false);
            DUE.is(name + ": going on", x.look(0), 1);
            DUE.is(name + ": orders", x.look(5), 2);
            x.run(2);
            DUE.is(name + ": orders then", x.look(5), 3);
        }
    }

    /** "at the first cycle from NOW on in which line presents place": NOW itself, or up to 31 cycles later. */
    private static void startsAtTheFirstCycle() {
        int[] nows = {0, 1, 31, 32, 33, 63, 64, 2000};
        for (int now : nows) {
            for (int later = 0; later < 32; later++) {
                DelayMachine x = new DelayMachine();
                x.start(0, 0);
                x.run(now);
                x.start(1, (now + later) % 32);
                x.run(later);
                DUE.is("NOW " + now + ", " + later + " later: none before", x.look(5), 0);
                x.run(1);
                DUE.is("NOW " + now + ", " + later + " later: read", x.look(5), 1);
                DUE.is("NOW " + now + ", " + later + " later: line", x.look(3), 1);
                DUE.is("NOW " + now + ", " + later + " later: place", x.look(4), (now + later) % 32);
            }
        }
    }

    /** A start before the first order of another start was read: only the latest one counts. */
    private static void startsBeforeItHasRead() {
        DelayMachine x = new DelayMachine();
        x.start(1, 20);
        x.run(3);
        x.order(0, 25, Orders.stop());
        x.start(0, 25);
        DUE.is("started again: until the stop", x.run(100), 25);
        DUE.is("started again: orders", x.look(5), 1);
        DUE.is("started again: line", x.look(3), 0);
        DUE.is("started again: place", x.look(4), 25);
    }

    /** A start changes no word, no order, no row of the deck and no statement. */
    private static void startLeavesTheRest() {
        DelayMachine x = fullOfWords();
        x.order(1, 31, 77);
        x.card((short) 5);
        x.statement(6, 0, 0, 0, 0);
        x.start(1, 0);
        for (int line = 2; line <= 8; line++) {
            for (int place = 0; place < places(line); place++) {
                DUE.is("started: peek(" + line + ", " + place + ")", x.peek(line, place), line * 100 + place);
            }
        }
        DUE.is("started: read(1, 31)", x.read(1, 31), 77);
        DUE.is("started: the deck", x.look(6), 1);
        DUE.is("started: the statements", x.statement(6, 0, 0, 0, 0), 1);
    }

    /** Promise 6: "-1 if n is not 0 .. 2000". */
    private static void cyclesOfARun() {
        int[][] cases = {{LEAST, -1}, {-2, -1}, {-1, -1}, {0, 0}, {1, 1}, {1999, 1999}, {2000, 2000}, {2001, -1},
            {2002, -1}, {MOST, -1}};
        for (int[] c : cases) {
            DelayMachine x = new DelayMachine();
            x.start(0, 0);
            DUE.is("run(" + c[0] + ")", x.run(c[0]), c[1]);
            DUE.is("run(" + c[0] + "): NOW", x.look(2), Math.max(0, c[1]));
            DUE.is("run(" + c[0] + "): going", x.look(0), 1);
            DUE.is("run(" + c[0] + "): orders", x.look(5), (Math.max(0, c[1]) + 1) / 2);
        }
    }

    /** "how many were gone through until it stopped (that one included)": it stops in cycle 12. */
    private static void runUntilItStopped() {
        int[][] cases = {{11, 11, 1}, {12, 12, 1}, {13, 13, 0}, {14, 13, 0}, {2000, 13, 0}};
        for (int[] c : cases) {
            DelayMachine x = new DelayMachine();
            x.order(0, 10, Orders.stop());
            x.start(0, 10);
            DUE.is("run(" + c[0] + ") with a stop", x.run(c[0]), c[1]);
            DUE.is("run(" + c[0] + ") with a stop: going", x.look(0), c[2]);
            DUE.is("run(" + c[0] + ") with a stop: NOW", x.look(2), c[1]);
            DUE.is("the rest", x.run(2000), 13 - c[1]);
        }
    }

    /** "0 if it is not going". */
    private static void runWhenItIsNotGoing() {
        DelayMachine x = new DelayMachine();
        int[][] cases = {{0, 0}, {1, 0}, {2000, 0}, {-1, -1}, {2001, -1}};
        for (int[] c : cases) {
            DUE.is("not started: run(" + c[0] + ")", x.run(c[0]), c[1]);
        }
        x.order(0, 0, Orders.stop());
        x.start(0, 0);
        x.run(3);
        for (int[] c : cases) {
            DUE.is("stopped: run(" + c[0] + ")", x.run(c[0]), c[1]);
        }
        DUE.is("NOW stays", x.look(2), 3);
    }

    /** Promise 7: "-1 for another what". */
    private static void looks() {
        DelayMachine x = new DelayMachine();
        for (int i = 0; i < 13; i++) {
            x.card((short) 1);
        }
        x.order(0, 4, Orders.single(1, Orders.PUNCH, 0, 4));
        x.order(0, 10, Orders.single(1, Orders.MULTIPLY, 0, 4));
        x.order(0, 16, Orders.order(1, Orders.FEED, 0, 0, 31, 1));
        x.start(0, 4);
        x.run(20);
        int[] want = {1, 0, 20, 0, 16, 3, 1, 1, 9};
        for (int what = 0; what <= 8; what++) {
            DUE.is("look(" + what + ")", x.look(what), want[what]);
        }
        int[] others = {-1, 9, 10, LEAST, MOST};
        for (int what : others) {
            DUE.is("look(" + what + ")", x.look(what), -1);
        }
    }

    /** "1 the fault of the latest run", "3 the line, and 4 the place of the order read latest in this run". */
    private static void looksOfTheLatestRun() {
        DelayMachine x = new DelayMachine();
        x.order(1, 2, Orders.single(0, Orders.FEED, 0, 31));
        x.start(1, 2);
        x.run(50);
        int[] first = {0, 2, 5, 1, 2, 1};
        for (int what = 0; what <= 5; what++) {
            DUE.is("after a fault: look(" + what + ")", x.look(what), first[what]);
        }
        x.start(0, 7);
        int[] second = {1, 0, 5, -1, -1, 0};
        for (int what = 0; what <= 5; what++) {
            DUE.is("after a start: look(" + what + ")", x.look(what), second[what]);
        }
        x.run(2);
        DUE.is("before the first order: line", x.look(3), -1);
        DUE.is("before the first order: place", x.look(4), -1);
        x.run(1);
        DUE.is("the first order: line", x.look(3), 0);
        DUE.is("the first order: place", x.look(4), 7);
        DUE.is("the first order: one was read", x.look(5), 1);
    }

    /** Promise 8: "0 if there is no such place": with no word 0 that could be taken for it. */
    private static void noWordIsZero() {
        DelayMachine x = fullOfWords();
        for (int[] n : NO_WORD) {
            DUE.is("peek(" + n[0] + ", " + n[1] + ")", x.peek(n[0], n[1]), 0);
        }
        for (int line = 2; line <= 8; line++) {
            DUE.is("peek(" + line + ", 0)", x.peek(line, 0), line * 100);
            int last = places(line) - 1;
            DUE.is("peek(" + line + ", " + last + ")", x.peek(line, last), line * 100 + last);
        }
    }

    /** Promise 9: "-1 if there is none". */
    private static void noOrderIsMinusOne() {
        DelayMachine x = fullOfOrders();
        for (int[] n : NO_ORDER) {
            DUE.is("read(" + n[0] + ", " + n[1] + ")", x.read(n[0], n[1]), -1);
        }
        ordersStay("read", x);
    }

    /** Promise 10: "Row i (from 0) that was punched; 0 if there is none". */
    private static void rowsPunched() {
        DelayMachine x = new DelayMachine();
        x.order(0, 0, Orders.single(11, Orders.PUNCH, 0, 30));
        DUE.is("none: punched(0)", x.punched(0), 0);
        x.start(0, 0);
        int[] counts = {1, 2, 59, 60};
        for (int count : counts) {
            while (x.look(7) < count) {
                x.run(32);
            }
            int[] none = {-1, count, count + 1, 60, 61, LEAST, MOST};
            for (int i : none) {
                DUE.is(count + " punched: punched(" + i + ")", x.punched(i), 0);
            }
            DUE.is(count + " punched: punched(0)", x.punched(0), -1);
            DUE.is(count + " punched: punched(" + (count - 1) + ")", x.punched(count - 1), -1);
        }
    }
}
