import java.util.Arrays;

/** A serial computer with delay lines and an assembler for it; the document's promises say what each call does. */
public final class DelayMachine {
    private static final int PLACES = 32;
    private static final int ROUND = PLACES - 1;
    private static final int ORDER_LINES = 2;
    private static final int ALL_ORDERS = ORDER_LINES * PLACES;
    private static final int HIGHEST_ORDER = (1 << 21) - 1;
    private static final int MOST_CYCLES = 2000;

    private static final int FIRST_WORD_LINE = 2;
    private static final int LAST_WORD_LINE = 5;
    private static final int A = 6;
    private static final int B = 7;
    private static final int D = 8;

    private static final int DESTINATION_BITS = 4;
    private static final int KIND_BITS = 8;
    private static final int WAIT_BITS = 10;
    private static final int TIMING_BITS = 15;
    private static final int NEXT_BITS = 20;
    private static final int DOUBLE = 1;
    private static final int LONG = 2;

    private static final int FROM_ZERO = 0;
    private static final int FROM_ROW = 13;
    private static final int TO_STOP = 1;
    private static final int TO_ADD = 9;
    private static final int TO_SUBTRACT = 10;
    private static final int TO_BELOW_ZERO = 11;
    private static final int TO_NOT_ZERO = 12;
    private static final int TO_MULTIPLIER = 13;
    private static final int TO_FEED = 14;
    private static final int TO_PUNCH = 15;
    private static final int STOP_ORDER = (TO_STOP << DESTINATION_BITS) | (ROUND << TIMING_BITS);

    private static final int NO_FAULT = 0;
    private static final int FAULT_MISSED = 1;
    private static final int FAULT_FEED = 2;
    private static final int FAULT_PUNCH = 3;

    private static final int STATEMENTS = 12;
    private static final int VARIABLES = 16;
    private static final int OPERATIONS = 7;
    private static final int SUM = 0;
    private static final int DIFFERENCE = 1;
    private static final int COPY = 2;
    private static final int PUNCHING = 3;
    private static final int BRANCH = 4;
    private static final int ROW_READING = 5;
    private static final int HALT = 6;
    private static final int NONE = -1;

    private final Store store;
    private final Reader reader;
    private final Punch punch;
    private final Machine machine;
    private final Program program;
    // a placing that is refused must leave no trace: it is tried apart, and the two change places if it fits
    private Placing kept;
    private Placing trial;

    public DelayMachine() {
        store = new Store();
        reader = new Reader();
        punch = new Punch();
        machine = new Machine(store, reader, punch);
        program = new Program();
        kept = new Placing();
        trial = new Placing();
    }

    public boolean order(int line, int place, int order) {
        int spot = Store.orderSpot(line, place);
        if (spot < 0 || order < 0 || order > HIGHEST_ORDER) {
            return false;
        }
        store.orders[spot] = order;
        return true;
    }

    public boolean word(int line, int place, short v) {
        int spot = Store.wordSpot(line, place);
        if (spot < 0) {
            return false;
        }
        store.words[spot] = v;
        return true;
    }

    public boolean card(short row) {
        return reader.addRow(row);
    }

    public boolean start(int line, int place) {
        if (Store.orderSpot(line, place) < 0) {
            return false;
        }
        machine.begin(line, place);
        return true;
    }

    public int run(int n) {
        if (n < 0 || n > MOST_CYCLES) {
            return -1;
        }
        for (int gone = 0; gone < n; gone++) {
            if (!machine.going) {
                return gone;
            }
            machine.goThroughCycle();
        }
        return n;
    }

    public int look(int what) {
        switch (what) {
            case 0:
                return machine.going ? 1 : 0;
            case 1:
                return machine.fault;
            case 2:
                return machine.now;
            case 3:
                return machine.latestLine;
            case 4:
                return machine.latestPlace;
            case 5:
                return machine.ordersTaken;
            case 6:
                return reader.rowsLeft();
            case 7:
                return punch.count;
            case 8:
                return machine.multiplier.left;
            default:
                return -1;
        }
    }

    public short peek(int line, int place) {
        int spot = Store.wordSpot(line, place);
        return spot < 0 ? 0 : store.words[spot];
    }

    public int read(int line, int place) {
        int spot = Store.orderSpot(line, place);
        return spot < 0 ? -1 : store.orders[spot];
    }

    public short punched(int i) {
        return i < 0 || i >= punch.count ? 0 : punch.rows[i];
    }

    public int statement(int operation, int a, int b, int c, int go) {
        return program.addStatement(operation, a, b, c, go);
    }

    public void clear() {
        program.count = 0;
    }

    public int assemble() {
        if (machine.going || program.count == 0 || !program.allGotosLead()) {
            return -1;
        }
        if (!trial.placeAll(program)) {
            return -1;
        }
        Placing old = kept;
        kept = trial;
        trial = old;
        System.arraycopy(kept.orders, 0, store.orders, 0, ALL_ORDERS);
        return kept.count;
    }

    public int placed(int statement) {
        return statement < 0 || statement >= STATEMENTS ? NONE : kept.firsts[statement];
    }

    public int variable(int v) {
        return Program.isVariable(v) ? kept.variables[v] : NONE;
    }

    /** Everything that the lines hold. */
    private static final class Store {
        private static final int A_SPOT = 128;
        private static final int B_SPOT = 129;
        private static final int D_SPOT = 130;
        private static final int WORDS = 132;

        private final int[] orders;
        private final short[] words;

        Store() {
            orders = new int[ALL_ORDERS];
            words = new short[WORDS];
        }

        static int orderSpot(int line, int place) {
            boolean there = line >= 0 && line < ORDER_LINES && place >= 0 && place < PLACES;
            return there ? line * PLACES + place : NONE;
        }

        static int wordSpot(int line, int place) {
            return place >= 0 && place < placesOf(line) ? firstSpot(line) + place : NONE;
        }

        /** A and B are lines of one place, so that they need no case of their own among sources and destinations. */
        static int presentedSpot(int line, int cycle) {
            return firstSpot(line) + (cycle & (placesOf(line) - 1));
        }

        private static int placesOf(int line) {
            if (line >= FIRST_WORD_LINE && line <= LAST_WORD_LINE) {
                return PLACES;
            }
            if (line == A || line == B) {
                return 1;
            }
            return line == D ? 2 : 0;
        }

        private static int firstSpot(int line) {
            switch (line) {
                case A:
                    return A_SPOT;
                case B:
                    return B_SPOT;
                case D:
                    return D_SPOT;
                default:
                    return (line - FIRST_WORD_LINE) * PLACES;
            }
        }

        int product() {
            return (words[D_SPOT + 1] << 16) | (words[D_SPOT] & 0xFFFF);
        }

        void setProduct(int product) {
            words[D_SPOT] = (short) product;
            words[D_SPOT + 1] = (short) (product >> 16);
        }
    }

    /** Doubles D and adds B beside the orders. */
    private static final class Multiplier {
        private static final int STEPS = 16;

        private int factor;
        private int left;
        private boolean fresh;

        void rest() {
            left = 0;
        }

        void begin(short word, Store store) {
            factor = word;
            left = STEPS;
            fresh = true;
            store.setProduct(0);
        }

        void endCycle(Store store) {
            if (fresh) {
                // its first step belongs to the cycle after the one that started it
                fresh = false;
                return;
            }
            if (left == 0) {
                return;
            }
            boolean adds = (factor & 0x8000) != 0;
            store.setProduct(2 * store.product() + (adds ? store.words[Store.B_SPOT] : 0));
            factor = factor << 1;
            left--;
        }
    }

    /** The deck and the card that passes. */
    private static final class Reader {
        private static final int MOST_ROWS = 48;
        private static final int CARD_ROWS = 12;
        private static final int DELAY = 40;
        private static final int ROW_STEP = 8;
        private static final int ROW_CYCLES = 3;
        private static final int LAST_OFFSET = (CARD_ROWS - 1) * ROW_STEP + ROW_CYCLES - 1;

        private final short[] deck;
        private int came;
        private int taken;
        private boolean cardPasses;
        private int fedAt;
        private boolean rowMoved;

        Reader() {
            deck = new short[MOST_ROWS];
        }

        boolean addRow(short row) {
            if (came >= MOST_ROWS) {
                return false;
            }
            deck[came] = row;
            came++;
            return true;
        }

        int rowsLeft() {
            return came - taken;
        }

        void rest() {
            cardPasses = false;
            rowMoved = false;
        }

        boolean feed(int cycle) {
            if (cardPasses || rowsLeft() < CARD_ROWS) {
                return false;
            }
            taken += CARD_ROWS;
            cardPasses = true;
            fedAt = cycle;
            return true;
        }

        /** The cycles since row 0 came, if a row can be read now. */
        private int offset(int cycle) {
            int offset = cycle - fedAt - DELAY;
            boolean inRow = offset >= 0 && offset <= LAST_OFFSET && offset % ROW_STEP < ROW_CYCLES;
            return cardPasses && inRow ? offset : NONE;
        }

        short moveRow(int cycle) {
            int offset = offset(cycle);
            if (offset < 0) {
                return 0;
            }
            rowMoved = true;
            return deck[taken - CARD_ROWS + offset / ROW_STEP];
        }

        /** Whether a row was missed that could be read until this cycle. */
        boolean endCycle(int cycle) {
            int offset = offset(cycle);
            if (offset < 0 || offset % ROW_STEP != ROW_CYCLES - 1) {
                return false;
            }
            boolean missed = !rowMoved;
            rowMoved = false;
            if (offset == LAST_OFFSET) {
                cardPasses = false;
            }
            return missed;
        }
    }

    /** What was punched, and when the last time. */
    private static final class Punch {
        private static final int MOST_ROWS = 60;
        private static final int RECOVERY = 6;

        private final short[] rows;
        private int count;
        private int lastCycle;

        Punch() {
            rows = new short[MOST_ROWS];
        }

        boolean take(short word, int cycle) {
            boolean tooSoon = count > 0 && cycle - lastCycle < RECOVERY;
            if (tooSoon || count >= MOST_ROWS) {
                return false;
            }
            rows[count] = word;
            count++;
            lastCycle = cycle;
            return true;
        }
    }

    /** The cycles in which an order that was read moves words, and the one in which it goes on. */
    private static final class Window {
        private int source;
        private int destination;
        private int first;
        private int last;
        private int leave;

        void close() {
            first = 1;
            last = 0;
        }

        void open(int order, int cycle) {
            source = order & 15;
            destination = (order >> DESTINATION_BITS) & 15;
            int wait = (order >> WAIT_BITS) & ROUND;
            int timing = (order >> TIMING_BITS) & ROUND;
            int gap = timing < wait ? timing + PLACES : timing;
            first = cycle + 2 + wait;
            leave = cycle + 2 + gap;
            last = lastOf((order >> KIND_BITS) & 3);
        }

        private int lastOf(int kind) {
            if (kind == LONG) {
                return leave;
            }
            return kind == DOUBLE ? first + 1 : first;
        }

        boolean covers(int cycle) {
            return cycle >= first && cycle <= last;
        }
    }

    /** Goes through cycles. */
    private static final class Machine {
        private final Store store;
        private final Reader reader;
        private final Punch punch;
        private final Multiplier multiplier;
        // a window can reach one cycle beyond the reading of the next order, so that the order before is kept too
        private Window current;
        private Window before;
        private boolean going;
        private int fault;
        private int now;
        private int nextLine;
        private int nextCycle;
        private int latestLine;
        private int latestPlace;
        private int ordersTaken;

        Machine(Store store, Reader reader, Punch punch) {
            this.store = store;
            this.reader = reader;
            this.punch = punch;
            multiplier = new Multiplier();
            current = new Window();
            before = new Window();
            latestLine = NONE;
            latestPlace = NONE;
        }

        void begin(int line, int place) {
            going = true;
            fault = NO_FAULT;
            nextLine = line;
            nextCycle = now + ((place - now) & ROUND);
            latestLine = NONE;
            latestPlace = NONE;
            ordersTaken = 0;
            current.close();
            before.close();
            multiplier.rest();
            reader.rest();
        }

        void goThroughCycle() {
            if (now == nextCycle) {
                takeOrder();
            }
            if (before.covers(now)) {
                move(before);
            } else if (current.covers(now)) {
                move(current);
            }
            multiplier.endCycle(store);
            if (reader.endCycle(now)) {
                stopBy(FAULT_MISSED);
            }
            now++;
        }

        private void takeOrder() {
            latestLine = nextLine;
            latestPlace = now & ROUND;
            ordersTaken++;
            int order = store.orders[latestLine * PLACES + latestPlace];
            Window free = before;
            before = current;
            current = free;
            current.open(order, now);
            nextLine = (order >> NEXT_BITS) & 1;
            nextCycle = current.leave;
        }

        private void stopBy(int newFault) {
            going = false;
            if (fault == NO_FAULT) {
                fault = newFault;
            }
        }

        private void move(Window window) {
            short word = sourceWord(window.source);
            switch (window.destination) {
                case TO_BELOW_ZERO:
                    discriminate(window, word < 0);
                    break;
                case TO_NOT_ZERO:
                    discriminate(window, word != 0);
                    break;
                default:
                    deliver(word, window.destination);
                    break;
            }
        }

        /** An order whose next order has been read is no more the current one: it is too late for it. */
        private void discriminate(Window window, boolean yes) {
            if (yes && window == current) {
                nextCycle = window.leave + 1;
            }
        }

        private short sourceWord(int source) {
            int a = store.words[Store.A_SPOT];
            int b = store.words[Store.B_SPOT];
            switch (source) {
                case 0:
                    return 0;
                case 1:
                    return 1;
                case 9:
                    return (short) (a & b);
                case 10:
                    return (short) (a ^ b);
                case 11:
                    return -1;
                case 12:
                    return (short) (a >> 1);
                case FROM_ROW:
                    return reader.moveRow(now);
                case 14:
                    return (short) ~a;
                case 15:
                    return (short) now;
                default:
                    return store.words[Store.presentedSpot(source, now)];
            }
        }

        private void deliver(short word, int destination) {
            switch (destination) {
                case 0:
                    break;
                case TO_STOP:
                    going = false;
                    break;
                case TO_ADD:
                    store.words[Store.A_SPOT] += word;
                    break;
                case TO_SUBTRACT:
                    store.words[Store.A_SPOT] -= word;
                    break;
                case TO_MULTIPLIER:
                    multiplier.begin(word, store);
                    break;
                case TO_FEED:
                    if (!reader.feed(now)) {
                        stopBy(FAULT_FEED);
                    }
                    break;
                case TO_PUNCH:
                    if (!punch.take(word, now)) {
                        stopBy(FAULT_PUNCH);
                    }
                    break;
                default:
                    store.words[Store.presentedSpot(destination, now)] = word;
                    break;
            }
        }
    }

    /** The statements that were given. */
    private static final class Program {
        private final int[] operations;
        private final int[] as;
        private final int[] bs;
        private final int[] cs;
        private final int[] gotos;
        private int count;

        Program() {
            operations = new int[STATEMENTS];
            as = new int[STATEMENTS];
            bs = new int[STATEMENTS];
            cs = new int[STATEMENTS];
            gotos = new int[STATEMENTS];
        }

        int addStatement(int operation, int a, int b, int c, int go) {
            boolean known = operation >= 0 && operation < OPERATIONS;
            boolean variables = isVariable(a) && isVariable(b) && isVariable(c);
            boolean leads = operation != BRANCH || (go >= 0 && go < STATEMENTS);
            if (count >= STATEMENTS || !known || !variables || !leads) {
                return -1;
            }
            operations[count] = operation;
            as[count] = a;
            bs[count] = b;
            cs[count] = c;
            gotos[count] = go;
            count++;
            return count - 1;
        }

        static boolean isVariable(int v) {
            return v >= 0 && v < VARIABLES;
        }

        boolean allGotosLead() {
            for (int i = 0; i < count; i++) {
                if (operations[i] == BRANCH && gotos[i] >= count) {
                    return false;
                }
            }
            return true;
        }

        boolean endsWithHalt() {
            return count > 0 && operations[count - 1] == HALT;
        }
    }

    /** One placing of a program; a spot is 32 * line + place. */
    private static final class Placing {
        private final int[] orders;
        private final int[] holders;
        private final int[] variables;
        private final int[] firsts;
        private final int[] branches;
        private int from;
        private int leader;
        private int count;
        private boolean fits;

        Placing() {
            orders = new int[ALL_ORDERS];
            holders = new int[PLACES];
            variables = new int[VARIABLES];
            firsts = new int[STATEMENTS];
            branches = new int[STATEMENTS];
            Arrays.fill(variables, NONE);
            Arrays.fill(firsts, NONE);
        }

        boolean placeAll(Program program) {
            forget();
            for (int i = 0; i < program.count; i++) {
                // a statement never begins with a fork, so its first order goes to the first free spot
                firsts[i] = freeSpot();
                placeStatement(program, i);
            }
            if (!program.endsWithHalt()) {
                placeStop();
            }
            if (fits) {
                leadBranches(program);
                fillWithStops();
            }
            return fits;
        }

        private void forget() {
            Arrays.fill(orders, NONE);
            Arrays.fill(holders, NONE);
            Arrays.fill(variables, NONE);
            Arrays.fill(firsts, NONE);
            Arrays.fill(branches, NONE);
            from = 0;
            leader = NONE;
            count = 0;
            fits = true;
        }

        private void placeStatement(Program program, int i) {
            int a = program.as[i];
            int c = program.cs[i];
            switch (program.operations[i]) {
                case SUM:
                    placeOrder(FIRST_WORD_LINE, A, a);
                    placeOrder(FIRST_WORD_LINE, TO_ADD, program.bs[i]);
                    placeOrder(A, FIRST_WORD_LINE, c);
                    break;
                case DIFFERENCE:
                    placeOrder(FIRST_WORD_LINE, A, a);
                    placeOrder(FIRST_WORD_LINE, TO_SUBTRACT, program.bs[i]);
                    placeOrder(A, FIRST_WORD_LINE, c);
                    break;
                case COPY:
                    placeOrder(FIRST_WORD_LINE, A, a);
                    placeOrder(A, FIRST_WORD_LINE, c);
                    break;
                case PUNCHING:
                    placeOrder(FIRST_WORD_LINE, TO_PUNCH, a);
                    break;
                case BRANCH:
                    placeOrder(FIRST_WORD_LINE, TO_BELOW_ZERO, a);
                    placeFork(i);
                    break;
                case ROW_READING:
                    placeOrder(FROM_ROW, FIRST_WORD_LINE, c);
                    break;
                default:
                    placeStop();
                    break;
            }
        }

        private void placeOrder(int source, int destination, int variable) {
            int spot = freeSpot();
            if (!fits || spot < 0) {
                fits = false;
                return;
            }
            int window = (spot + 2) & ROUND;
            int wait = variable == NONE ? 0 : (variablePlace(variable, window) - window) & ROUND;
            occupy(spot, source | (destination << DESTINATION_BITS) | (wait << WAIT_BITS));
            from = (window + wait) & ROUND;
        }

        private void placeStop() {
            placeOrder(FROM_ZERO, TO_STOP, NONE);
            if (fits) {
                orders[leader] = STOP_ORDER;
                leader = NONE;
            }
        }

        private void placeFork(int statement) {
            int spot = forkSpot();
            if (!fits || spot < 0) {
                fits = false;
                return;
            }
            int other = (spot & PLACES) | ((spot + 1) & ROUND);
            occupy(spot, 0);
            orders[other] = 0;
            count++;
            branches[statement] = other;
            from = (spot + 2) & ROUND;
        }

        private void occupy(int spot, int order) {
            if (leader >= 0) {
                lead(leader, spot);
            }
            orders[spot] = order;
            leader = spot;
            count++;
        }

        private void lead(int spot, int target) {
            int timing = (target - spot - 2) & ROUND;
            orders[spot] |= (timing << TIMING_BITS) | (target / PLACES << NEXT_BITS);
        }

        private int freeSpot() {
            for (int step = 0; step < PLACES; step++) {
                int place = (from + step) & ROUND;
                for (int line = 0; line < ORDER_LINES; line++) {
                    if (isFree(line, place)) {
                        return line * PLACES + place;
                    }
                }
            }
            return NONE;
        }

        private int forkSpot() {
            for (int step = 1; step < PLACES; step++) {
                int place = (from + step) & ROUND;
                for (int line = 0; line < ORDER_LINES; line++) {
                    if (isFree(line, place) && isFree(line, (place + 1) & ROUND)) {
                        return line * PLACES + place;
                    }
                }
            }
            return NONE;
        }

        private boolean isFree(int line, int place) {
            return orders[line * PLACES + place] == NONE;
        }

        private int variablePlace(int variable, int window) {
            for (int step = 0; step < PLACES && variables[variable] == NONE; step++) {
                int place = (window + step) & ROUND;
                if (holders[place] == NONE) {
                    holders[place] = variable;
                    variables[variable] = place;
                }
            }
            return variables[variable];
        }

        private void leadBranches(Program program) {
            for (int i = 0; i < program.count; i++) {
                if (branches[i] != NONE) {
                    lead(branches[i], firsts[program.gotos[i]]);
                }
            }
        }

        private void fillWithStops() {
            for (int spot = 0; spot < ALL_ORDERS; spot++) {
                if (orders[spot] == NONE) {
                    orders[spot] = STOP_ORDER;
                }
            }
        }
    }
}
