/** Promises 1, 2, 3, 4 and 7: a new object, adding processes and taking them away. */
public final class AddingTest {
    private static final int LEAST = Integer.MIN_VALUE;
    private static final int GREATEST = Integer.MAX_VALUE;

    private AddingTest() {
    }

    public static void main(String[] args) {
        newObject();
        sourceRules();
        sourceTaken();
        sourceOrder();
        processBad();
        processTaken();
        portsThatPlayNoPart();
        twoPortsTheSame();
        ownChannel();
        processOrder();
        refusedChangesNothing();
        clearing();
        Check.end();
    }

    private static void newObject() {
        for (int buffer : new int[] {LEAST, -1, 0, 1, 2, 3, 4, 5, 6, 7, 100, GREATEST}) {
            KahnNet net = new KahnNet(buffer);
            String of = " of new KahnNet(" + buffer + ")";
            Check.due("processes()" + of, net.processes(), 0);
            Check.due("total()" + of, net.total(), 0);
            for (int c = 0; c < 10; c++) {
                Check.stream("a new object" + of, net, c);
            }
            Check.due("clear()" + of, net.clear(), 0);
            // Twelve ints wait for partners that never come, however small the buffer is.
            Check.due("source" + of, net.source(12, 1, 1), 0);
            Check.due("process" + of, net.process(KahnNet.COPY, 12, 0), 1);
            Check.due("process" + of, net.process(KahnNet.PLUS, 1930, 0), 2);
            Check.stream("a full row" + of, net, 2, 1, 2, 3, 4, 5, 6, 7, 8, 9, 10, 11, 12);
            Check.stream("a sum that waits" + of, net, 3);
            Check.due("total()" + of, net.total(), 36);
        }
    }

    private static void sourceRules() {
        for (int rule = -40; rule < 220; rule++) {
            KahnNet net = new KahnNet(1);
            int c = Math.floorDiv(rule, 16);
            int n = Math.floorMod(rule, 16);
            boolean good = c >= 0 && c <= 9 && n <= 12;
            Check.due("source(" + rule + ", 5, 2)", net.source(rule, 5, 2), good ? 0 : KahnNet.BAD);
            Check.due("processes() after it", net.processes(), good ? 1 : 0);
            Check.due("total() after it", net.total(), good ? n : 0);
            if (good) {
                Check.due("length(" + c + ") after it", net.length(c), n);
            }
        }
        KahnNet net = new KahnNet(1);
        Check.due("source(least, 0, 0)", net.source(LEAST, 0, 0), KahnNet.BAD);
        Check.due("source(greatest, 0, 0)", net.source(GREATEST, 0, 0), KahnNet.BAD);
        Check.due("source(65536, 0, 0)", net.source(65536, 0, 0), KahnNet.BAD);
        Check.due("source(least + 5, 0, 0)", net.source(LEAST + 5, 0, 0), KahnNet.BAD);
    }

    private static void sourceTaken() {
        KahnNet net = new KahnNet(1);
        Check.due("source(0, 1, 1) of no ints", net.source(0, 1, 1), 0);
        Check.due("source(3, 1, 1) where a source of no ints writes", net.source(3, 1, 1), KahnNet.TAKEN);
        Check.due("process(COPY, 5012, 0)", net.process(KahnNet.COPY, 5012, 0), 1);
        Check.due("source on the c of a COPY", net.source(16 + 3, 1, 1), KahnNet.TAKEN);
        Check.due("source on the d of a COPY", net.source(32 + 3, 1, 1), KahnNet.TAKEN);
        Check.due("source on a channel that is only read", net.source(80 + 3, 1, 1), 2);
        Check.stream("the source is read at once", net, 2, 1, 2, 3);
    }

    private static void sourceOrder() {
        KahnNet net = new KahnNet(1);
        Check.due("source(1, 0, 0)", net.source(1, 0, 0), 0);
        Check.due("BAD is tested before TAKEN", net.source(13, 0, 0), KahnNet.BAD);
        for (int c = 1; c < 8; c++) {
            Check.due("source on " + c, net.source(16 * c + 1, 0, 0), c);
        }
        Check.due("FULL is tested before BAD", net.source(-1, 0, 0), KahnNet.FULL);
        Check.due("FULL is tested before BAD", net.source(13, 0, 0), KahnNet.FULL);
        Check.due("FULL is tested before TAKEN", net.source(1, 0, 0), KahnNet.FULL);
        Check.due("FULL for a good source, too", net.source(16 * 9 + 1, 0, 0), KahnNet.FULL);
        Check.due("processes()", net.processes(), 8);
    }

    private static void processBad() {
        KahnNet net = new KahnNet(1);
        for (int kind : new int[] {LEAST, -1, 0, 8, 9, 257, GREATEST}) {
            Check.due("process(" + kind + ", 12, 0)", net.process(kind, 12, 0), KahnNet.BAD);
        }
        for (int kind = 1; kind <= 7; kind++) {
            for (int ports : new int[] {LEAST, -12, -1, 10000, 10012, 65548, GREATEST}) {
                Check.due("process(" + kind + ", " + ports + ", 0)", net.process(kind, ports, 0), KahnNet.BAD);
            }
        }
        Check.due("processes()", net.processes(), 0);
        Check.due("process(FIRST, 9999, 0)", net.process(KahnNet.FIRST, 9999, 0), 0);
        Check.due("process(FIRST, 0, 0)", net.process(KahnNet.FIRST, 0, 0), 1);
    }

    /** A COPY from 1 to 3 and 4 and a PLUS from 5 and 6 to 7. */
    private static KahnNet copyAndPlus() {
        KahnNet net = new KahnNet(1);
        Check.due("process(COPY, 1034, 0)", net.process(KahnNet.COPY, 1034, 0), 0);
        Check.due("process(PLUS, 5670, 0)", net.process(KahnNet.PLUS, 5670, 0), 1);
        return net;
    }

    private static void processTaken() {
        for (int kind = 1; kind <= 7; kind++) {
            for (int ports = 0; ports <= 9999; ports++) {
                int a = ports / 1000;
                int b = ports / 100 % 10;
                int c = ports / 10 % 10;
                int d = ports % 10;
                boolean two = kind == KahnNet.PLUS || kind == KahnNet.JOIN;
                boolean taken = readHere(a) || writtenHere(c) || two && (readHere(b) || a == b)
                    || kind == KahnNet.COPY && (writtenHere(d) || c == d);
                KahnNet net = copyAndPlus();
                Check.due("process(" + kind + ", " + ports + ", 0)", net.process(kind, ports, 0),
                    taken ? KahnNet.TAKEN : 2);
                Check.due("processes()", net.processes(), taken ? 2 : 3);
            }
        }
    }

    private static boolean readHere(int channel) {
        return channel == 1 || channel == 5 || channel == 6;
    }

    private static boolean writtenHere(int channel) {
        return channel == 3 || channel == 4 || channel == 7;
    }

    private static void portsThatPlayNoPart() {
        int[] oneToOne = {KahnNet.FIRST, KahnNet.PICK, KahnNet.SUMS, KahnNet.PAIRS};
        for (int kind : oneToOne) {
            KahnNet net = new KahnNet(1);
            Check.due("kind " + kind + " with b as a and d as c", net.process(kind, 2233, 0), 0);
            Check.due("kind " + kind + ": 2 is read", net.process(KahnNet.SUMS, 2040, 0), KahnNet.TAKEN);
            Check.due("kind " + kind + " with b and d in use", net.process(kind, 4253, 0), 1);
        }
        for (int kind : oneToOne) {
            KahnNet net = new KahnNet(1);
            Check.due("kind " + kind, net.process(kind, 1234, 0), 0);
            Check.due("kind " + kind + " does not read its b", net.process(KahnNet.SUMS, 2050, 0), 1);
            Check.due("kind " + kind + " does not write its d", net.source(64 + 2, 1, 1), 2);
            Check.stream("kind " + kind, net, 4, 1, 2);
        }
        KahnNet net = new KahnNet(1);
        Check.due("COPY with b as a", net.process(KahnNet.COPY, 1123, 0), 0);
        Check.due("COPY with b in use", net.process(KahnNet.COPY, 4156, 0), 1);
        Check.due("PLUS with d as c", net.process(KahnNet.PLUS, 5677, 0), 2);
        Check.due("JOIN with d in use", net.process(KahnNet.JOIN, 8987, 0), 3);
    }

    private static void twoPortsTheSame() {
        for (int c = 0; c < 10; c++) {
            KahnNet net = new KahnNet(1);
            int other = (c + 1) % 10;
            Check.due("COPY to one twice", net.process(KahnNet.COPY, 1000 * other + 11 * c, 0), KahnNet.TAKEN);
            Check.due("PLUS of one twice", net.process(KahnNet.PLUS, 1100 * c + 10 * other, 0), KahnNet.TAKEN);
            Check.due("JOIN of one twice", net.process(KahnNet.JOIN, 1100 * c + 10 * other, 0), KahnNet.TAKEN);
            Check.due("processes()", net.processes(), 0);
        }
    }

    private static void ownChannel() {
        for (int kind = 1; kind <= 7; kind++) {
            KahnNet net = new KahnNet(1);
            Check.due("kind " + kind + " that reads what it writes", net.process(kind, 3434, 0), 0);
            Check.due("kind " + kind + " once more", net.process(kind, 3434, 0), KahnNet.TAKEN);
        }
        KahnNet net = new KahnNet(1);
        Check.due("PLUS of 3 and 4 to 4", net.process(KahnNet.PLUS, 3440, 0), 0);
        Check.due("COPY of 5 to 6 and 5", net.process(KahnNet.COPY, 5065, 0), 1);
        Check.due("total()", net.total(), 0);
    }

    private static void processOrder() {
        KahnNet net = new KahnNet(1);
        Check.due("process(SUMS, 10, 0)", net.process(KahnNet.SUMS, 10, 0), 0);
        Check.due("BAD is tested before TAKEN", net.process(8, 10, 0), KahnNet.BAD);
        Check.due("BAD is tested before TAKEN", net.process(KahnNet.SUMS, 10010, 0), KahnNet.BAD);
        for (int i = 1; i < 8; i++) {
            Check.due("number " + i, net.process(KahnNet.SUMS, 1010 * i + 10, 0), i);
            Check.due("processes()", net.processes(), i + 1);
        }
        Check.due("FULL is tested before BAD", net.process(0, 9090, 0), KahnNet.FULL);
        Check.due("FULL is tested before BAD", net.process(KahnNet.SUMS, -1, 0), KahnNet.FULL);
        Check.due("FULL is tested before TAKEN", net.process(KahnNet.SUMS, 10, 0), KahnNet.FULL);
        Check.due("FULL for a good process, too", net.process(KahnNet.SUMS, 9090, 0), KahnNet.FULL);
        Check.due("processes()", net.processes(), 8);
    }

    private static void refusedChangesNothing() {
        KahnNet net = new KahnNet(1);
        Check.due("source(3, 1, 1)", net.source(3, 1, 1), 0);
        Check.due("process(COPY, 12, 0)", net.process(KahnNet.COPY, 12, 0), 1);
        Check.due("source(2, 8, 8)", net.source(2, 8, 8), KahnNet.TAKEN);
        Check.due("process(FIRST, 3010, 7)", net.process(KahnNet.FIRST, 3010, 7), KahnNet.TAKEN);
        Check.due("process(PLUS, 4030, 7)", net.process(KahnNet.PLUS, 4030, 7), KahnNet.TAKEN);
        Check.due("source(61, 8, 8)", net.source(61, 8, 8), KahnNet.BAD);
        Check.due("process(0, 4030, 7)", net.process(0, 4030, 7), KahnNet.BAD);
        Check.due("processes()", net.processes(), 2);
        Check.due("total()", net.total(), 9);
        Check.due("3 and 4 are free still", net.process(KahnNet.FIRST, 4030, 7), 2);
        Check.stream("after the refused ones", net, 3, 7);
        Check.stream("after the refused ones", net, 2, 1, 2, 3);
    }

    private static void clearing() {
        KahnNet net = new KahnNet(3);
        Check.due("clear() of nothing", net.clear(), 0);
        for (int many = 1; many <= 8; many++) {
            for (int c = 0; c < many; c++) {
                Check.due("source on " + c, net.source(16 * c + 12, c, 1), c);
            }
            Check.due("processes()", net.processes(), many);
            Check.due("total()", net.total(), 12 * many);
            Check.due("clear()", net.clear(), many);
            Check.due("processes() after clear", net.processes(), 0);
            Check.due("total() after clear", net.total(), 0);
            Check.due("at(0, 1) after clear", net.at(0, 1), 0);
            Check.due("firstDifference(0, 9) after clear", net.firstDifference(0, 9), -1);
            Check.due("clear() once more", net.clear(), 0);
        }
        Check.due("process(FIRST, 1000, 5)", net.process(KahnNet.FIRST, 1000, 5), 0);
        Check.stream("nothing is left of the sources", net, 0, 5);
        Check.due("process(COPY, 12, 0)", net.process(KahnNet.COPY, 12, 0), 1);
        Check.due("length(2)", net.length(2), 20);
        Check.due("clear()", net.clear(), 2);
        Check.due("ports are free again", net.process(KahnNet.COPY, 12, 0), 0);
        Check.due("length(2)", net.length(2), 0);
    }
}
