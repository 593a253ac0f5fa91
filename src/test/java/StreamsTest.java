/** Terms and promises 5, 6, 8, 9 and 10: what each kind writes, and what is told of the streams. */
public final class StreamsTest {
    private static final int LEAST = Integer.MIN_VALUE;
    private static final int GREATEST = Integer.MAX_VALUE;

    private StreamsTest() {
    }

    public static void main(String[] args) {
        sources();
        copies();
        sums();
        firsts();
        picks();
        joins();
        joinsStop();
        runningSums();
        pairs();
        cutAtTwenty();
        readersSeeTwentyOnly();
        loops();
        anyOrderOfAdding();
        wrongChannels();
        totals();
        differences();
        Check.end();
    }

    private static void add(KahnNet net, int kind, int ports, int number) {
        int due = net.processes();
        Check.due("process(" + kind + ", " + ports + ", " + number + ")", net.process(kind, ports, number), due);
    }

    private static void give(KahnNet net, int c, int n, int p, int q) {
        int due = net.processes();
        int rule = 16 * c + n;
        Check.due("source(" + rule + ", " + p + ", " + q + ")", net.source(rule, p, q), due);
    }

    private static void sources() {
        KahnNet net = new KahnNet(1);
        give(net, 0, 0, 7, 7);
        give(net, 1, 1, 7, 7);
        give(net, 2, 12, -3, 2);
        give(net, 3, 4, 5, 0);
        give(net, 4, 3, 1, -1);
        give(net, 5, 4, GREATEST, 1);
        give(net, 6, 4, LEAST, GREATEST);
        give(net, 9, 4, 0, LEAST);
        Check.stream("no ints", net, 0);
        Check.stream("one int", net, 1, 7);
        Check.stream("twelve ints", net, 2, -3, -1, 1, 3, 5, 7, 9, 11, 13, 15, 17, 19);
        Check.stream("the same int", net, 3, 5, 5, 5, 5);
        Check.stream("falling", net, 4, 1, 0, -1);
        Check.stream("SOURCE wraps", net, 5, GREATEST, LEAST, LEAST + 1, LEAST + 2);
        Check.stream("SOURCE wraps", net, 6, LEAST, -1, GREATEST - 1, -3);
        Check.stream("SOURCE wraps", net, 9, 0, LEAST, 0, LEAST);
    }

    private static void copies() {
        KahnNet net = new KahnNet(1);
        give(net, 7, 3, 4, 4);
        add(net, KahnNet.COPY, 7908, 0);
        Check.stream("COPY to c", net, 0, 4, 8, 12);
        Check.stream("COPY to d", net, 8, 4, 8, 12);
        Check.stream("COPY leaves a", net, 7, 4, 8, 12);
        Check.stream("COPY has no b", net, 9);
    }

    private static void sums() {
        KahnNet net = new KahnNet(1);
        give(net, 0, 5, 1, 1);
        give(net, 1, 3, 10, 10);
        add(net, KahnNet.PLUS, 120, 0);
        Check.stream("PLUS, b is shorter", net, 2, 11, 22, 33);
        give(net, 3, 2, GREATEST, -1);
        give(net, 4, 4, 1, 1);
        add(net, KahnNet.PLUS, 3450, 0);
        Check.stream("PLUS wraps, a is shorter", net, 5, LEAST, LEAST);
        add(net, KahnNet.PLUS, 5670, 0);
        Check.stream("PLUS with nothing at b", net, 7);
        add(net, KahnNet.PLUS, 8290, 0);
        Check.stream("PLUS with nothing at a", net, 9);
    }

    private static void firsts() {
        KahnNet net = new KahnNet(1);
        give(net, 0, 2, 1, 1);
        add(net, KahnNet.FIRST, 10, LEAST);
        Check.stream("FIRST", net, 1, LEAST, 1, 2);
        add(net, KahnNet.FIRST, 2030, 6);
        Check.stream("FIRST of nothing", net, 3, 6);
        add(net, KahnNet.FIRST, 4040, 9);
        Check.stream("FIRST of itself", net, 4, 9, 9, 9, 9, 9, 9, 9, 9, 9, 9, 9, 9, 9, 9, 9, 9, 9, 9, 9, 9);
    }

    private static void picks() {
        KahnNet net = new KahnNet(1);
        give(net, 0, 12, -6, 1);
        add(net, KahnNet.PICK, 10, 1);
        Check.stream("PICK of the even ones", net, 1, -6, -4, -2, 0, 2, 4);
        add(net, KahnNet.PICK, 1020, LEAST);
        Check.stream("PICK of those not negative", net, 2, 0, 2, 4);
        add(net, KahnNet.PICK, 2030, -1);
        Check.stream("PICK of the zeros", net, 3, 0);
        add(net, KahnNet.PICK, 3040, 0);
        Check.stream("PICK of all", net, 4, 0);
        give(net, 5, 12, 0, 1);
        add(net, KahnNet.PICK, 5060, 6);
        Check.stream("PICK where no bit of m is set", net, 6, 0, 1, 8, 9);
        add(net, KahnNet.PICK, 6070, 15);
        Check.stream("PICK once more", net, 7, 0);
    }

    private static void joins() {
        KahnNet net = new KahnNet(1);
        give(net, 0, 4, 1, 3);
        give(net, 1, 4, 2, 2);
        add(net, KahnNet.JOIN, 120, 0);
        // 1 4 7 10 and 2 4 6 8: of the two fours each is written, then b ends.
        Check.stream("JOIN", net, 2, 1, 2, 4, 4, 6, 7, 8);
        give(net, 3, 2, LEAST, GREATEST);
        give(net, 4, 2, GREATEST, 0);
        add(net, KahnNet.JOIN, 3450, 0);
        Check.stream("JOIN of far ints", net, 5, LEAST, -1);
        // What comes in descending order is still taken by the next int alone.
        give(net, 6, 3, 9, -4);
        add(net, KahnNet.JOIN, 6270, 0);
        Check.stream("JOIN of falling ints", net, 7, 1, 2, 4, 4, 6, 7, 8);
    }

    private static void joinsStop() {
        KahnNet net = new KahnNet(1);
        give(net, 0, 3, 1, 1);
        give(net, 1, 3, 3, 0);
        add(net, KahnNet.JOIN, 120, 0);
        Check.stream("of equal ones that of a is taken, and a ends", net, 2, 1, 2, 3);
        give(net, 3, 3, 3, 0);
        give(net, 4, 3, 1, 1);
        add(net, KahnNet.JOIN, 3450, 0);
        Check.stream("of equal ones those of a are taken, and a ends", net, 5, 1, 2, 3, 3, 3);
        add(net, KahnNet.JOIN, 2670, 0);
        Check.stream("JOIN with nothing at b", net, 7);
        add(net, KahnNet.JOIN, 8590, 0);
        Check.stream("JOIN with nothing at a", net, 9);
    }

    private static void runningSums() {
        KahnNet net = new KahnNet(1);
        give(net, 0, 4, 3, 1);
        add(net, KahnNet.SUMS, 10, 99);
        Check.stream("SUMS", net, 1, 3, 7, 12, 18);
        give(net, 2, 3, GREATEST, 0);
        add(net, KahnNet.SUMS, 2030, 0);
        Check.stream("SUMS wraps", net, 3, GREATEST, -2, GREATEST - 2);
        add(net, KahnNet.SUMS, 4050, 0);
        Check.stream("SUMS of nothing", net, 5);
    }

    private static void pairs() {
        KahnNet net = new KahnNet(1);
        give(net, 0, 5, 1, 3);
        add(net, KahnNet.PAIRS, 10, 99);
        Check.stream("PAIRS leaves an odd last one", net, 1, -3, -3);
        give(net, 2, 1, 8, 1);
        add(net, KahnNet.PAIRS, 2030, 0);
        Check.stream("PAIRS of one int", net, 3);
        net.clear();
        give(net, 0, 7, 1, 1);
        add(net, KahnNet.SUMS, 10, 0);
        add(net, KahnNet.PAIRS, 1020, 0);
        Check.stream("PAIRS of 1 3, 6 10, 15 21 and a 28", net, 2, -2, -4, -6);
        net.clear();
        give(net, 4, 4, LEAST, 1);
        add(net, KahnNet.FIRST, 4050, GREATEST);
        add(net, KahnNet.PAIRS, 5060, 0);
        Check.stream("PAIRS wraps", net, 6, -1, -1);
        net.clear();
        give(net, 0, 2, LEAST, LEAST + 1);
        add(net, KahnNet.PAIRS, 10, 0);
        Check.stream("PAIRS wraps", net, 1, GREATEST);
    }

    private static void cutAtTwenty() {
        KahnNet net = new KahnNet(1);
        // 1 2 .. 12 and 1 2 .. 12 join to 23 ints, of which 20 stay.
        give(net, 0, 12, 1, 1);
        give(net, 1, 12, 1, 1);
        add(net, KahnNet.JOIN, 120, 0);
        int[] joined = {1, 1, 2, 2, 3, 3, 4, 4, 5, 5, 6, 6, 7, 7, 8, 8, 9, 9, 10, 10};
        Check.stream("JOIN is cut", net, 2, joined);
        Check.due("at(2, 20)", net.at(2, 20), 0);
        add(net, KahnNet.COPY, 2034, 0);
        Check.stream("COPY of twenty", net, 3, joined);
        Check.stream("COPY of twenty", net, 4, joined);
        add(net, KahnNet.FIRST, 3050, 0);
        Check.stream("FIRST is cut", net, 5, 0, 1, 1, 2, 2, 3, 3, 4, 4, 5, 5, 6, 6, 7, 7, 8, 8, 9, 9, 10);
        add(net, KahnNet.PLUS, 5460, 0);
        Check.stream("PLUS of twenty", net, 6, 1, 2, 3, 4, 5, 6, 7, 8, 9, 10, 11, 12, 13, 14, 15, 16, 17, 18, 19, 20);
        add(net, KahnNet.PAIRS, 6070, 0);
        Check.stream("PAIRS of twenty", net, 7, -1, -1, -1, -1, -1, -1, -1, -1, -1, -1);
        Check.due("the next channel is as it was", net.length(8), 0);
        Check.due("total()", net.total(), 12 + 12 + 5 * 20 + 10);
    }

    /** A reader is given the first 20 ints of a channel, so what stands behind them is never picked. */
    private static void readersSeeTwentyOnly() {
        KahnNet net = new KahnNet(1);
        // A loop that counts 0 1 2 .. without end, one of the ones of another loop being added each time.
        add(net, KahnNet.FIRST, 2000, 0);
        add(net, KahnNet.COPY, 13, 0);
        add(net, KahnNet.FIRST, 5040, 1);
        add(net, KahnNet.COPY, 4056, 0);
        add(net, KahnNet.PLUS, 1620, 0);
        Check.stream("the loop counts", net, 3, 0, 1, 2, 3, 4, 5, 6, 7, 8, 9, 10, 11, 12, 13, 14, 15, 16, 17, 18, 19);
        add(net, KahnNet.PICK, 3070, 1);
        Check.stream("PICK of the first twenty", net, 7, 0, 2, 4, 6, 8, 10, 12, 14, 16, 18);
        add(net, KahnNet.PAIRS, 7080, 0);
        Check.stream("PAIRS of the ten", net, 8, -2, -2, -2, -2, -2);
        add(net, KahnNet.SUMS, 8090, 0);
        Check.stream("SUMS of the five", net, 9, -2, -4, -6, -8, -10);
    }

    private static void loops() {
        KahnNet net = new KahnNet(1);
        // The stream is 1 and then its own running sums: each int from the second on is the sum of all before it.
        add(net, KahnNet.FIRST, 1000, 1);
        add(net, KahnNet.SUMS, 10, 0);
        for (int k = 0; k < 20; k++) {
            Check.due("at(1, " + k + ")", net.at(1, k), 1 << k);
            Check.due("at(0, " + k + ")", net.at(0, k), k == 0 ? 1 : 1 << (k - 1));
        }
        net.clear();
        // A loop without a FIRST never gets its first int.
        add(net, KahnNet.COPY, 12, 0);
        add(net, KahnNet.SUMS, 1000, 0);
        Check.due("total() of an empty loop", net.total(), 0);
        net.clear();
        // A loop that dries up: PAIRS needs two ints for each that it gives back.
        add(net, KahnNet.FIRST, 1000, 5);
        add(net, KahnNet.PAIRS, 10, 0);
        Check.stream("a loop that dries up", net, 0, 5);
        Check.stream("a loop that dries up", net, 1);
        net.clear();
        // A JOIN that reads itself: 1 2 3 merged with what was written, behind a 0.
        give(net, 0, 3, 1, 1);
        add(net, KahnNet.JOIN, 120, 0);
        add(net, KahnNet.FIRST, 2010, 0);
        int[] zeros = new int[20];
        Check.stream("JOIN in a loop", net, 2, zeros);
        Check.stream("JOIN in a loop", net, 1, zeros);
    }

    private static void anyOrderOfAdding() {
        int[][] parts = {{KahnNet.COPY, 12, 0}, {KahnNet.PICK, 1030, 1}, {KahnNet.SUMS, 2040, 0},
            {KahnNet.PLUS, 3450, 0}};
        for (int first = 0; first < parts.length; first++) {
            for (int step = 1; step <= 3; step += 2) {
                KahnNet net = new KahnNet(first + 1);
                for (int i = 0; i < parts.length; i++) {
                    int[] part = parts[(first + i * step) % parts.length];
                    add(net, part[0], part[1], part[2]);
                }
                Check.due("total() without a source", net.total(), 0);
                give(net, 0, 8, 1, 1);
                Check.stream("the source came last", net, 3, 2, 4, 6, 8);
                Check.stream("the source came last", net, 4, 1, 3, 6, 10, 15, 21, 28, 36);
                Check.stream("the source came last", net, 5, 3, 7, 12, 18);
                Check.due("total()", net.total(), 8 + 8 + 8 + 4 + 8 + 4);
            }
        }
    }

    private static void wrongChannels() {
        KahnNet net = new KahnNet(1);
        for (int c = 0; c < 8; c++) {
            give(net, c, 12, 100, 1);
        }
        for (int c : new int[] {LEAST, -16, -1, 10, 11, 16, 256, GREATEST}) {
            Check.due("length(" + c + ")", net.length(c), KahnNet.BAD);
            Check.due("at(" + c + ", 0)", net.at(c, 0), 0);
            Check.due("at(" + c + ", 20)", net.at(c, 20), 0);
            Check.due("at(" + c + ", -20)", net.at(c, -20), 0);
            Check.due("firstDifference(" + c + ", 0)", net.firstDifference(c, 0), -2);
            Check.due("firstDifference(0, " + c + ")", net.firstDifference(0, c), -2);
            Check.due("firstDifference(" + c + ", " + c + ")", net.firstDifference(c, c), -2);
        }
        for (int k : new int[] {LEAST, -20, -1, 12, 19, 20, 21, 40, 200, 1 << 28, GREATEST}) {
            Check.due("at(1, " + k + ")", net.at(1, k), 0);
            Check.due("at(9, " + k + ")", net.at(9, k), 0);
        }
        Check.due("at(1, 0)", net.at(1, 0), 100);
        Check.due("at(1, 11)", net.at(1, 11), 111);
        Check.due("length(9)", net.length(9), 0);
        Check.due("at(9, 0)", net.at(9, 0), 0);
    }

    private static void totals() {
        KahnNet net = new KahnNet(1);
        int sum = 0;
        for (int c = 2; c < 10; c++) {
            give(net, c, c, 0, 0);
            sum += c;
            Check.due("total()", net.total(), sum);
        }
        net.clear();
        // All ten channels full: an endless loop over a COPY, whose other end feeds the rest.
        add(net, KahnNet.FIRST, 1000, 1);
        add(net, KahnNet.COPY, 12, 0);
        add(net, KahnNet.COPY, 2034, 0);
        add(net, KahnNet.COPY, 3056, 0);
        add(net, KahnNet.COPY, 4078, 0);
        add(net, KahnNet.SUMS, 5090, 0);
        Check.due("total() of ten full channels", net.total(), 200);
        Check.due("at(9, 19)", net.at(9, 19), 20);
    }

    private static void differences() {
        KahnNet net = new KahnNet(1);
        give(net, 0, 5, 1, 1);
        give(net, 1, 5, 1, 1);
        give(net, 2, 3, 1, 1);
        give(net, 3, 5, 1, 2);
        give(net, 4, 0, 1, 1);
        give(net, 5, 1, 0, 0);
        Check.due("firstDifference of the same ones", net.firstDifference(0, 1), -1);
        Check.due("firstDifference of one with itself", net.firstDifference(3, 3), -1);
        Check.due("firstDifference, d ends", net.firstDifference(0, 2), 3);
        Check.due("firstDifference, c ends", net.firstDifference(2, 0), 3);
        Check.due("firstDifference inside", net.firstDifference(0, 3), 1);
        Check.due("firstDifference inside, d shorter", net.firstDifference(3, 2), 1);
        Check.due("firstDifference with an empty one", net.firstDifference(0, 4), 0);
        Check.due("firstDifference of empty ones", net.firstDifference(4, 9), -1);
        Check.due("a zero is not the same as no int", net.firstDifference(5, 9), 0);
        Check.due("a zero is not the same as no int", net.firstDifference(9, 5), 0);
        net.clear();
        add(net, KahnNet.FIRST, 0, 1);
        give(net, 1, 12, 1, 0);
        Check.due("firstDifference behind the shorter one", net.firstDifference(0, 1), 12);
        lastOfTwenty();
    }

    private static void lastOfTwenty() {
        KahnNet net = new KahnNet(1);
        // Channel 1 has 1 2 4 .. up to 2 to the 19; a JOIN with ints just above 2 to the 18 changes the last one.
        add(net, KahnNet.FIRST, 2000, 1);
        add(net, KahnNet.SUMS, 10, 0);
        add(net, KahnNet.COPY, 1023, 0);
        add(net, KahnNet.COPY, 3045, 0);
        add(net, KahnNet.FIRST, 7060, (1 << 18) + 1);
        add(net, KahnNet.COPY, 6078, 0);
        add(net, KahnNet.JOIN, 4890, 0);
        Check.due("at(5, 19)", net.at(5, 19), 1 << 19);
        Check.due("at(9, 19)", net.at(9, 19), (1 << 18) + 1);
        Check.due("firstDifference at the last of twenty", net.firstDifference(5, 9), 19);
        Check.due("firstDifference of full ones that are the same", net.firstDifference(1, 5), -1);
    }
}
