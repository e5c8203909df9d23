/** Orders from their parts. */
final class Orders {
    static final int A = 6;
    static final int B = 7;
    static final int D = 8;
    static final int ROW = 13;
    static final int CYCLE = 15;
    static final int NOTHING = 0;
    static final int STOP = 1;
    static final int ADD = 9;
    static final int SUBTRACT = 10;
    static final int BELOW_ZERO = 11;
    static final int NOT_ZERO = 12;
    static final int MULTIPLY = 13;
    static final int FEED = 14;
    static final int PUNCH = 15;

    private Orders() {
    }

    static int order(int source, int destination, int kind, int wait, int timing, int next) {
        return source | destination << 4 | kind << 8 | wait << 10 | timing << 15 | next << 20;
    }

    static int single(int source, int destination, int wait, int timing) {
        return order(source, destination, 0, wait, timing, 0);
    }

    static int twice(int source, int destination, int wait, int timing) {
        return order(source, destination, 1, wait, timing, 0);
    }

    static int all(int source, int destination, int wait, int timing) {
        return order(source, destination, 2, wait, timing, 0);
    }

    static int stop() {
        return single(0, STOP, 0, 31);
    }
}
