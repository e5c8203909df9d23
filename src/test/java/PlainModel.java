import java.util.ArrayList;
import java.util.HashMap;
import java.util.List;
import java.util.Map;

/**
 * The machine written a second time, from the document's words and in another way: an order, when it is read, writes
 * down each move that it will make, a card each cycle in which a row can be read.
 */
final class PlainModel {
    private static final class Read {
        int source;
        int destination;
        int next;
        int nextRead;
        boolean over;
        boolean discriminated;
    }

    private static final class Row {
        short word;
        boolean moved;
        int lastCycle;
    }

    private static final class Made {
        int source;
        int destination;
        int wait;
        int line;
        int place;
        boolean stops;
        Made leadsTo;
        int leadsToStatement = -1;

        int encoded(Map<Integer, Made> firsts) {
            if (stops) {
                return Orders.stop();
            }
            Made target = leadsToStatement >= 0 ? firsts.get(leadsToStatement) : leadsTo;
            int timing = Math.floorMod(target.place - (place + 2), 32);
            return Orders.order(source, destination, 0, wait, timing, target.line);
        }
    }

    private final int[][] orders = new int[2][32];
    private final Map<Integer, short[]> lines = new HashMap<>();
    private final List<Short> deck = new ArrayList<>();
    private int cardsCome;
    private final List<Short> punchedRows = new ArrayList<>();
    private final List<Integer> punchedCycles = new ArrayList<>();
    private int now;
    private boolean going;
    private int fault;
    private int startLine;
    private int startCycle;
    private Read latest;
    private int latestLine = -1;
    private int latestPlace = -1;
    private int ordersRead;
    private final Map<Integer, Read> moves = new HashMap<>();
    private final Map<Integer, Row> rows = new HashMap<>();
    private int readerBusyUntil = -1;
    private int factor;
    private int firstStep;
    private int lastStep = -1;
    private final List<int[]> statements = new ArrayList<>();
    private Map<Integer, Made> firsts = new HashMap<>();
    private Map<Integer, Integer> variables = new HashMap<>();
    private Made[][] grid;
    private Map<Integer, Integer> newVariables;
    private List<Made> made;
    private Made leader;
    private int from;

    PlainModel() {
        for (int line = 2; line <= 8; line++) {
            lines.put(line, new short[line <= 5 ? 32 : line == 8 ? 2 : 1]);
        }
    }

    private boolean isOrder(int line, int place) {
        return (line == 0 || line == 1) && 0 <= place && place <= 31;
    }

    private boolean isWord(int line, int place) {
        return lines.containsKey(line) && 0 <= place && place < lines.get(line).length;
    }

    boolean order(int line, int place, int order) {
        if (!isOrder(line, place) || order < 0 || order > 2097151) {
            return false;
        }
        orders[line][place] = order;
        return true;
    }

    boolean word(int line, int place, short v) {
        if (!isWord(line, place)) {
            return false;
        }
        lines.get(line)[place] = v;
        return true;
    }

    boolean card(short row) {
        if (cardsCome == 48) {
            return false;
        }
        cardsCome++;
        deck.add(row);
        return true;
    }

    boolean start(int line, int place) {
        if (!isOrder(line, place)) {
            return false;
        }
        going = true;
        fault = 0;
        latest = null;
        latestLine = -1;
        latestPlace = -1;
        ordersRead = 0;
        moves.clear();
        rows.clear();
        readerBusyUntil = -1;
        lastStep = -1;
        startLine = line;
        startCycle = now;
        while (startCycle % 32 != place) {
            startCycle++;
        }
        return true;
    }

    int run(int n) {
        if (n < 0 || n > 2000) {
            return -1;
        }
        int gone = 0;
        while (going && gone < n) {
            cycle();
            now++;
            gone++;
        }
        return gone;
    }

    private void cycle() {
        if (latest == null && now == startCycle) {
            readFrom(startLine);
        } else if (latest != null && now == latest.nextRead) {
            latest.over = true;
            readFrom(latest.next);
        }
        boolean starts = false;
        Read moving = moves.remove(now);
        if (moving != null) {
            starts = moving.destination == 13;
            deliver(moving, source(moving.source));
        }
        if (!starts && firstStep <= now && now <= lastStep) {
            int product = lines.get(8)[1] * 65536 + Short.toUnsignedInt(lines.get(8)[0]);
            product = product + product;
            if (factor >= 32768) {
                product += lines.get(7)[0];
            }
            factor = factor * 2 % 65536;
            lines.get(8)[0] = (short) product;
            lines.get(8)[1] = (short) (product >>> 16);
        }
        Row row = rows.get(now);
        if (row != null && row.lastCycle == now && !row.moved) {
            fail(1);
        }
    }

    private void fail(int number) {
        going = false;
        fault = fault == 0 ? number : fault;
    }

    private void readFrom(int line) {
        int order = orders[line][now % 32];
        latestLine = line;
        latestPlace = now % 32;
        ordersRead++;
        latest = new Read();
        latest.source = order % 16;
        latest.destination = order / 16 % 16;
        int kind = order / 256 % 4;
        int wait = order / 1024 % 32;
        int gap = order / 32768 % 32;
        if (gap < wait) {
            gap += 32;
        }
        latest.next = order / 1048576;
        latest.nextRead = now + 2 + gap;
        moves.put(now + 2 + wait, latest);
        if (kind == 1) {
            moves.put(now + 3 + wait, latest);
        }
        for (int t = wait; kind == 2 && t <= gap; t++) {
            moves.put(now + 2 + t, latest);
        }
    }

    private short presented(int line) {
        short[] words = lines.get(line);
        return words[now % words.length];
    }

    private short source(int number) {
        short a = lines.get(6)[0];
        short b = lines.get(7)[0];
        switch (number) {
            case 0: return 0;
            case 1: return 1;
            case 9: return (short) (a & b);
            case 10: return (short) (a ^ b);
            case 11: return -1;
            case 12: return (short) Math.floorDiv(a, 2);
            case 13: return row();
            case 14: return (short) (-1 - a);
            case 15: return (short) (now % 65536);
            default: return presented(number);
        }
    }

    private short row() {
        Row row = rows.get(now);
        if (row == null) {
            return 0;
        }
        row.moved = true;
        return row.word;
    }

    private void deliver(Read order, short word) {
        short[] a = lines.get(6);
        switch (order.destination) {
            case 0: break;
            case 1: going = false; break;
            case 9: a[0] = (short) (a[0] + word); break;
            case 10: a[0] = (short) (a[0] - word); break;
            case 11: discriminate(order, word < 0); break;
            case 12: discriminate(order, word != 0); break;
            case 13: multiply(word); break;
            case 14: feed(); break;
            case 15: punch(word); break;
            default:
                short[] words = lines.get(order.destination);
                words[now % words.length] = word;
                break;
        }
    }

    private void discriminate(Read order, boolean yes) {
        if (yes && !order.over && !order.discriminated) {
            order.nextRead++;
            order.discriminated = true;
        }
    }

    private void multiply(short word) {
        factor = Short.toUnsignedInt(word);
        firstStep = now + 1;
        lastStep = now + 16;
        lines.put(8, new short[2]);
    }

    private void feed() {
        if (deck.size() < 12 || now <= readerBusyUntil) {
            fail(2);
            return;
        }
        for (int i = 0; i < 12; i++) {
            Row row = new Row();
            row.word = deck.remove(0);
            row.lastCycle = now + 42 + 8 * i;
            for (int t = now + 40 + 8 * i; t <= row.lastCycle; t++) {
                rows.put(t, row);
            }
            readerBusyUntil = row.lastCycle;
        }
    }

    private void punch(short word) {
        int size = punchedRows.size();
        if (size == 60 || size > 0 && now < punchedCycles.get(size - 1) + 6) {
            fail(3);
            return;
        }
        punchedRows.add(word);
        punchedCycles.add(now);
    }

    int look(int what) {
        switch (what) {
            case 0: return going ? 1 : 0;
            case 1: return fault;
            case 2: return now;
            case 3: return latestLine;
            case 4: return latestPlace;
            case 5: return ordersRead;
            case 6: return deck.size();
            case 7: return punchedRows.size();
            case 8: return Math.max(0, lastStep - now + 1);
            default: return -1;
        }
    }

    short peek(int line, int place) {
        return isWord(line, place) ? lines.get(line)[place] : 0;
    }

    int read(int line, int place) {
        return isOrder(line, place) ? orders[line][place] : -1;
    }

    short punched(int i) {
        return 0 <= i && i < punchedRows.size() ? punchedRows.get(i) : 0;
    }

    int statement(int operation, int a, int b, int c, int go) {
        if (statements.size() == 12 || operation < 0 || operation > 6 || operation == 4 && (go < 0 || go > 11)) {
            return -1;
        }
        for (int v : new int[] {a, b, c}) {
            if (v < 0 || v > 15) {
                return -1;
            }
        }
        statements.add(new int[] {operation, a, b, c, go});
        return statements.size() - 1;
    }

    void clear() {
        statements.clear();
    }

    int placed(int statement) {
        Made first = firsts.get(statement);
        return first == null ? -1 : 32 * first.line + first.place;
    }

    int variable(int v) {
        return variables.getOrDefault(v, -1);
    }

    int assemble() {
        if (going || statements.isEmpty()) {
            return -1;
        }
        for (int[] s : statements) {
            if (s[0] == 4 && s[4] >= statements.size()) {
                return -1;
            }
        }
        grid = new Made[2][32];
        newVariables = new HashMap<>();
        made = new ArrayList<>();
        leader = null;
        from = 0;
        Map<Integer, Made> newFirsts = new HashMap<>();
        for (int i = 0; i < statements.size(); i++) {
            int before = made.size();
            if (!make(statements.get(i))) {
                return -1;
            }
            newFirsts.put(i, made.get(before));
        }
        if (statements.get(statements.size() - 1)[0] != 6 && !makeStop()) {
            return -1;
        }
        firsts = newFirsts;
        variables = newVariables;
        for (int line = 0; line < 2; line++) {
            for (int place = 0; place < 32; place++) {
                Made there = grid[line][place];
                orders[line][place] = there == null ? Orders.stop() : there.encoded(firsts);
            }
        }
        return made.size();
    }

    private boolean make(int[] s) {
        switch (s[0]) {
            case 0: return make(2, 6, s[1]) && make(2, 9, s[2]) && make(6, 2, s[3]);
            case 1: return make(2, 6, s[1]) && make(2, 10, s[2]) && make(6, 2, s[3]);
            case 2: return make(2, 6, s[1]) && make(6, 2, s[3]);
            case 3: return make(2, 15, s[1]);
            case 4: return make(2, 11, s[1]) && makeFork(s[4]);
            case 5: return make(13, 2, s[3]);
            default: return makeStop();
        }
    }

    private boolean make(int source, int destination, int variable) {
        for (int p = from; p < from + 32; p++) {
            for (int line = 0; line < 2; line++) {
                if (grid[line][p % 32] == null) {
                    Made order = put(line, p % 32, source, destination);
                    lead(order);
                    int at = variable < 0 ? (p + 2) % 32 : findVariable(variable, p + 2);
                    while ((p + 2 + order.wait) % 32 != at) {
                        order.wait++;
                    }
                    from = (p + 2 + order.wait) % 32;
                    return true;
                }
            }
        }
        return false;
    }

    private int findVariable(int variable, int start) {
        int place = start % 32;
        while (!newVariables.containsKey(variable)) {
            if (!newVariables.containsValue(place)) {
                newVariables.put(variable, place);
            }
            place = (place + 1) % 32;
        }
        return newVariables.get(variable);
    }

    private Made put(int line, int place, int source, int destination) {
        Made order = new Made();
        order.source = source;
        order.destination = destination;
        order.line = line;
        order.place = place;
        grid[line][place] = order;
        made.add(order);
        return order;
    }

    private void lead(Made order) {
        if (leader != null) {
            leader.leadsTo = order;
        }
        leader = order;
    }

    private boolean makeStop() {
        if (!make(0, 1, -1)) {
            return false;
        }
        leader.stops = true;
        leader = null;
        return true;
    }

    private boolean makeFork(int go) {
        for (int q = from + 1; q <= from + 31; q++) {
            for (Made[] line : grid) {
                if (line[q % 32] == null && line[(q + 1) % 32] == null) {
                    int number = line == grid[0] ? 0 : 1;
                    lead(put(number, q % 32, 0, 0));
                    put(number, (q + 1) % 32, 0, 0).leadsToStatement = go;
                    from = (q + 2) % 32;
                    return true;
                }
            }
        }
        return false;
    }
}
