/** Networks of processes that read and write streams. */
public final class KahnNet {
    public static final int SOURCE = 0;
    public static final int COPY = 1;
    public static final int PLUS = 2;
    public static final int FIRST = 3;
    public static final int PICK = 4;
    public static final int JOIN = 5;
    public static final int SUMS = 6;
    public static final int PAIRS = 7;
    public static final int BAD = -1;
    public static final int FULL = -2;
    public static final int TAKEN = -3;

    private static final int MOST_PROCESSES = 8;
    private static final int CHANNELS = 10;
    private static final int LONGEST = 20;
    private static final int CELLS = CHANNELS * LONGEST;
    private static final int MOST_OF_SOURCE = 12;
    private static final int MOST_PORTS = 9999;
    /** Stands for a port that a kind does not have: equal to no channel. */
    private static final int NO_PORT = -1;
    /** firstDifference has its own answers, which only happen to equal BAD and FULL. */
    private static final int SAME = -1;
    private static final int NO_CHANNEL = -2;

    private int count = 0;
    private final int[] kinds = new int[MOST_PROCESSES];
    private final int[] portA = new int[MOST_PROCESSES];
    private final int[] portB = new int[MOST_PROCESSES];
    private final int[] portC = new int[MOST_PROCESSES];
    private final int[] portD = new int[MOST_PROCESSES];
    private final int[] numbers = new int[MOST_PROCESSES];
    private final int[] increments = new int[MOST_PROCESSES];
    private final int[] amounts = new int[MOST_PROCESSES];

    private final int[] lengths = new int[CHANNELS];
    private final int[] cells = new int[CELLS];

    /**
     * The buffer is not kept: the streams are the same ones for every size of buffer, so each channel
     * holds its whole stream from the start.
     */
    public KahnNet(int buffer) {
    }

    public int source(int rule, int p, int q) {
        if (count >= MOST_PROCESSES) {
            return FULL;
        }
        if (rule < 0) {
            return BAD;
        }
        int c = rule / 16;
        int n = rule % 16;
        if (c >= CHANNELS || n > MOST_OF_SOURCE) {
            return BAD;
        }
        if (isWritten(c)) {
            return TAKEN;
        }
        int added = add(SOURCE, NO_PORT, NO_PORT, c, NO_PORT, p);
        increments[added] = q;
        amounts[added] = n;
        run();
        return added;
    }

    public int process(int kind, int ports, int number) {
        if (count >= MOST_PROCESSES) {
            return FULL;
        }
        if (kind < COPY || kind > PAIRS || ports < 0 || ports > MOST_PORTS) {
            return BAD;
        }
        int a = ports / 1000;
        int b = readsTwo(kind) ? ports / 100 % 10 : NO_PORT;
        int c = ports / 10 % 10;
        int d = writesTwo(kind) ? ports % 10 : NO_PORT;
        if (a == b || c == d || isRead(a) || isWritten(c)) {
            return TAKEN;
        }
        if (b != NO_PORT && isRead(b) || d != NO_PORT && isWritten(d)) {
            return TAKEN;
        }
        int added = add(kind, a, b, c, d, number);
        run();
        return added;
    }

    public int clear() {
        int taken = count;
        count = 0;
        for (int c = 0; c < CHANNELS; c++) {
            lengths[c] = 0;
        }
        return taken;
    }

    public int length(int c) {
        return isChannel(c) ? lengths[c] : BAD;
    }

    public int at(int c, int k) {
        if (!isChannel(c) || k < 0 || k >= lengths[c]) {
            return 0;
        }
        return cells[c * LONGEST + k];
    }

    public int processes() {
        return count;
    }

    public int total() {
        int sum = 0;
        for (int c = 0; c < CHANNELS; c++) {
            sum += lengths[c];
        }
        return sum;
    }

    public int firstDifference(int c, int d) {
        if (!isChannel(c) || !isChannel(d)) {
            return NO_CHANNEL;
        }
        for (int k = 0; k < LONGEST; k++) {
            boolean inC = k < lengths[c];
            boolean inD = k < lengths[d];
            if (inC != inD) {
                return k;
            }
            if (inC && cells[c * LONGEST + k] != cells[d * LONGEST + k]) {
                return k;
            }
        }
        return SAME;
    }

    private boolean isChannel(int c) {
        return c >= 0 && c < CHANNELS;
    }

    private boolean readsTwo(int kind) {
        return kind == PLUS || kind == JOIN;
    }

    private boolean writesTwo(int kind) {
        return kind == COPY;
    }

    private boolean isRead(int channel) {
        for (int i = 0; i < count; i++) {
            if (portA[i] == channel || portB[i] == channel) {
                return true;
            }
        }
        return false;
    }

    private boolean isWritten(int channel) {
        for (int i = 0; i < count; i++) {
            if (portC[i] == channel || portD[i] == channel) {
                return true;
            }
        }
        return false;
    }

    private int add(int kind, int a, int b, int c, int d, int number) {
        int added = count;
        kinds[added] = kind;
        portA[added] = a;
        portB[added] = b;
        portC[added] = c;
        portD[added] = d;
        numbers[added] = number;
        count = added + 1;
        return added;
    }

    /**
     * Goes on from the streams that are there, because a further process only ever lengthens them. A round
     * that writes nothing is the last one, and each other round fills one cell at least, so that one round
     * more than there are cells is always enough.
     */
    private void run() {
        for (int round = 0; round <= CELLS; round++) {
            int before = total();
            for (int i = 0; i < count; i++) {
                step(i);
            }
            if (total() == before) {
                break;
            }
        }
    }

    /** Writes all that process i can write, given what its channels hold now. */
    private void step(int i) {
        switch (kinds[i]) {
            case SOURCE:
                writeSource(portC[i], numbers[i], increments[i], amounts[i]);
                break;
            case COPY:
                writeCopy(portA[i], portC[i], portD[i]);
                break;
            case PLUS:
                writePlus(portA[i], portB[i], portC[i]);
                break;
            case FIRST:
                writeFirst(portA[i], portC[i], numbers[i]);
                break;
            case PICK:
                writePick(portA[i], portC[i], numbers[i]);
                break;
            case JOIN:
                writeJoin(portA[i], portB[i], portC[i]);
                break;
            case SUMS:
                writeSums(portA[i], portC[i]);
                break;
            case PAIRS:
                writePairs(portA[i], portC[i]);
                break;
            default:
                break;
        }
    }

    /**
     * Makes x int number k of a channel if that is the next one. An earlier one is there already and stays
     * as it is: a process that knows more of what it reads writes the same ints first.
     */
    private void put(int channel, int k, int x) {
        if (k == lengths[channel] && k < LONGEST) {
            cells[channel * LONGEST + k] = x;
            lengths[channel] = k + 1;
        }
    }

    // Each method below looks at the lengths of what it reads once, before it writes: a process may read the
    // channel that it writes, and would otherwise move the end of its own loop.

    private void writeSource(int c, int p, int q, int n) {
        for (int k = 0; k < n; k++) {
            put(c, k, p + k * q);
        }
    }

    private void writeCopy(int a, int c, int d) {
        int known = lengths[a];
        for (int k = 0; k < known; k++) {
            int x = cells[a * LONGEST + k];
            put(c, k, x);
            put(d, k, x);
        }
    }

    private void writePlus(int a, int b, int c) {
        int known = lengths[a] < lengths[b] ? lengths[a] : lengths[b];
        for (int k = 0; k < known; k++) {
            put(c, k, cells[a * LONGEST + k] + cells[b * LONGEST + k]);
        }
    }

    private void writeFirst(int a, int c, int p) {
        int known = lengths[a];
        put(c, 0, p);
        for (int k = 0; k < known; k++) {
            put(c, k + 1, cells[a * LONGEST + k]);
        }
    }

    private void writePick(int a, int c, int m) {
        int known = lengths[a];
        int picked = 0;
        for (int k = 0; k < known; k++) {
            int x = cells[a * LONGEST + k];
            if ((x & m) == 0) {
                put(c, picked, x);
                picked++;
            }
        }
    }

    private void writeJoin(int a, int b, int c) {
        int knownA = lengths[a];
        int knownB = lengths[b];
        int i = 0;
        int j = 0;
        for (int k = 0; k < LONGEST && i < knownA && j < knownB; k++) {
            int x = cells[a * LONGEST + i];
            int y = cells[b * LONGEST + j];
            if (x <= y) {
                put(c, k, x);
                i++;
            } else {
                put(c, k, y);
                j++;
            }
        }
    }

    private void writeSums(int a, int c) {
        int known = lengths[a];
        int sum = 0;
        for (int k = 0; k < known; k++) {
            sum += cells[a * LONGEST + k];
            put(c, k, sum);
        }
    }

    private void writePairs(int a, int c) {
        int pairs = lengths[a] / 2;
        for (int k = 0; k < pairs; k++) {
            int first = a * LONGEST + 2 * k;
            put(c, k, cells[first] - cells[first + 1]);
        }
    }
}
