/** Promise 3: process. */
public final class ProcessTest {
    private static final int LEAST = Nets.LEAST;
    private static final int GREATEST = Nets.GREATEST;

    private ProcessTest() {
    }

    public static void main(String[] args) {
        Check.says("ports is 1000 * a + 100 * b + 10 * c + d, the four channels", ProcessTest::digitsOfPorts);
        Check.says("those that the kind does not have play no part", ProcessTest::portsThatPlayNoPart);
        Check.says("number is p or m (or plays no part)", ProcessTest::numberThatPlaysNoPart);
        Check.says("8 processes are there: FULL", ProcessTest::full);
        Check.says("kind outside 1..7 .. BAD", ProcessTest::kindOutside);
        Check.says("ports outside 0..9999: BAD", ProcessTest::portsOutside);
        Check.says("some process reads a, or, if the kind has it, b", ProcessTest::readAlready);
        Check.says("some process writes c, or, if the kind has it, d", ProcessTest::writtenAlready);
        Check.says("or a and b .. are the same where the kind has both: TAKEN", ProcessTest::sameReadPorts);
        Check.says("or c and d, are the same where the kind has both: TAKEN", ProcessTest::sameWrittenPorts);
        Check.says("are the same where the kind has both: TAKEN", ProcessTest::ownChannelIsNotTaken);
        Check.says("Tested in this order", ProcessTest::fullComesFirst);
        Check.says("Tested in this order", ProcessTest::badComesBeforeTaken);
        Check.says("Else answers its number.", ProcessTest::itsNumber);
        Check.says("Else answers its number.", ProcessTest::everyPorts);
        Check.says("Else answers its number.", ProcessTest::refusedAddsNothing);
        Check.end();
    }

    private static boolean readsTwo(int kind) {
        return kind == KahnNet.PLUS || kind == KahnNet.JOIN;
    }

    private static boolean writesTwo(int kind) {
        return kind == KahnNet.COPY;
    }

    private static void digitsOfPorts() {
        for (int x = 0; x <= 9; x++) {
            int y = (x + 3) % 10;
            int z = (x + 5) % 10;
            KahnNet net = new KahnNet(1);
            Nets.give(net, x, 2, 1, 1);
            Nets.give(net, y, 2, 10, 10);
            Nets.add(net, KahnNet.PLUS, 1000 * x + 100 * y + 10 * z, 0);
            Check.stream("PLUS of " + x + " and " + y + " to " + z, net, z, 11, 22);
            net.clear();
            Nets.give(net, x, 2, 1, 1);
            Nets.add(net, KahnNet.COPY, 1000 * x + 10 * y + z, 0);
            Check.stream("COPY of " + x + " to " + y, net, y, 1, 2);
            Check.stream("COPY of " + x + " to " + z, net, z, 1, 2);
        }
    }

    private static void portsThatPlayNoPart() {
        for (int kind = KahnNet.COPY; kind <= KahnNet.PAIRS; kind++) {
            KahnNet net = new KahnNet(1);
            Nets.add(net, kind, 1234, 0);
            if (!readsTwo(kind)) {
                Check.due("kind " + kind + " does not read its b", net.process(KahnNet.FIRST, 2070, 0), 1);
                Check.due("kind " + kind + " with its b in use", net.process(kind, 5189, 0), 2);
                net.clear();
                Check.due("kind " + kind + " with b as a", net.process(kind, 2234, 0), 0);
            }
            net = new KahnNet(1);
            Nets.add(net, kind, 1234, 0);
            if (!writesTwo(kind)) {
                Check.due("kind " + kind + " does not write its d", net.source(64 + 2, 1, 1), 1);
                Check.stream("kind " + kind + " does not write its d", net, 4, 1, 2);
                Check.due("kind " + kind + " with its d in use", net.process(kind, 5673, 0), 2);
                net.clear();
                Check.due("kind " + kind + " with d as c", net.process(kind, 1233, 0), 0);
            }
        }
    }

    private static void numberThatPlaysNoPart() {
        // By kind, of 1 2 3 4 5 and 2 3 4 5; those of FIRST and PICK are left out.
        int[][] due = {{}, {1, 2, 3, 4, 5}, {3, 5, 7, 9}, {}, {}, {1, 2, 2, 3, 3, 4, 4, 5}, {1, 3, 6, 10, 15},
            {-1, -1}};
        for (int number : new int[] {LEAST, -1, 0, 1, 7, GREATEST}) {
            for (int kind = KahnNet.COPY; kind <= KahnNet.PAIRS; kind++) {
                if (kind != KahnNet.FIRST && kind != KahnNet.PICK) {
                    KahnNet net = new KahnNet(1);
                    // That of another process plays no part either.
                    Nets.add(net, KahnNet.FIRST, 9090, number);
                    Nets.give(net, 0, 5, 1, 1);
                    Nets.give(net, 1, 4, 2, 1);
                    Nets.add(net, kind, 123, number);
                    Check.stream("kind " + kind + " with number " + number, net, 2, due[kind]);
                }
            }
        }
    }

    private static void full() {
        for (int kind = KahnNet.COPY; kind <= KahnNet.PAIRS; kind++) {
            Check.due("kind " + kind + " as the eighth", Nets.ofSources(7).process(kind, 6789, 0), 7);
            KahnNet net = Nets.ofSources(8);
            Check.due("kind " + kind + " as the ninth", net.process(kind, 6789, 0), KahnNet.FULL);
            Check.due("processes()", net.processes(), 8);
            Check.due("total()", net.total(), 8);
            Check.due("clear()", net.clear(), 8);
            Check.due("kind " + kind + " after clear", net.process(kind, 6789, 0), 0);
        }
    }

    private static void kindOutside() {
        for (int kind : new int[] {LEAST, LEAST + 1, -7, -1, KahnNet.SOURCE, 8, 9, 16, 257, 65537, GREATEST}) {
            for (int ports : new int[] {0, 12, 123, 9999}) {
                KahnNet net = new KahnNet(1);
                Check.due("process(" + kind + ", " + ports + ", 0)", net.process(kind, ports, 0), KahnNet.BAD);
                Check.due("processes()", net.processes(), 0);
                Check.due("total()", net.total(), 0);
            }
        }
        Check.due("the least kind", new KahnNet(1).process(1, 123, 0), 0);
        Check.due("the greatest kind", new KahnNet(1).process(7, 123, 0), 0);
    }

    private static void portsOutside() {
        for (int kind = KahnNet.COPY; kind <= KahnNet.PAIRS; kind++) {
            KahnNet net = new KahnNet(1);
            for (int ports : new int[] {LEAST, LEAST + 123, -10000, -123, -12, -1, 10000, 10001, 10123, 65536 + 123,
                100123, GREATEST}) {
                Check.due("process(" + kind + ", " + ports + ", 0)", net.process(kind, ports, 0), KahnNet.BAD);
            }
            Check.due("processes()", net.processes(), 0);
            Check.due("total()", net.total(), 0);
            // All ports are the same channel in these two, which is no fault for a kind that has one of each.
            int edge = readsTwo(kind) || writesTwo(kind) ? KahnNet.TAKEN : 0;
            Check.due("process(" + kind + ", 0, 0)", new KahnNet(1).process(kind, 0, 0), edge);
            Check.due("process(" + kind + ", 9999, 0)", new KahnNet(1).process(kind, 9999, 0), edge);
            Check.due("process(" + kind + ", 123, 0)", new KahnNet(1).process(kind, 123, 0), 0);
            Check.due("process(" + kind + ", 9876, 0)", new KahnNet(1).process(kind, 9876, 0), 0);
        }
    }

    private static void readAlready() {
        for (int there = KahnNet.COPY; there <= KahnNet.PAIRS; there++) {
            for (int kind = KahnNet.COPY; kind <= KahnNet.PAIRS; kind++) {
                String what = "kind " + kind + " where kind " + there + " is there, ";
                int ofB = readsTwo(there) ? KahnNet.TAKEN : 1;
                Check.due(what + "its a is a", second(there, kind, 1567), KahnNet.TAKEN);
                Check.due(what + "its a is b", second(there, kind, 2567), ofB);
                Check.due(what + "its b is a", second(there, kind, 5167), readsTwo(kind) ? KahnNet.TAKEN : 1);
                Check.due(what + "its b is b", second(there, kind, 5267), readsTwo(kind) ? ofB : 1);
            }
        }
    }

    private static void writtenAlready() {
        for (int there = KahnNet.COPY; there <= KahnNet.PAIRS; there++) {
            for (int kind = KahnNet.COPY; kind <= KahnNet.PAIRS; kind++) {
                String what = "kind " + kind + " where kind " + there + " is there, ";
                int ofD = writesTwo(there) ? KahnNet.TAKEN : 1;
                Check.due(what + "its c is c", second(there, kind, 5637), KahnNet.TAKEN);
                Check.due(what + "its c is d", second(there, kind, 5647), ofD);
                Check.due(what + "its d is c", second(there, kind, 5673), writesTwo(kind) ? KahnNet.TAKEN : 1);
                Check.due(what + "its d is d", second(there, kind, 5674), writesTwo(kind) ? ofD : 1);
            }
        }
        for (int kind = KahnNet.COPY; kind <= KahnNet.PAIRS; kind++) {
            KahnNet net = new KahnNet(1);
            Nets.give(net, 4, 0, 0, 0);
            Check.due("c is that of a source", net.process(kind, 1243, 0), KahnNet.TAKEN);
            Check.due("d is that of a source", net.process(kind, 1234, 0), writesTwo(kind) ? KahnNet.TAKEN : 1);
        }
    }

    /** What is answered to a kind with these ports where another kind has the ports 1234. */
    private static int second(int there, int kind, int ports) {
        KahnNet net = new KahnNet(1);
        Nets.add(net, there, 1234, 0);
        return net.process(kind, ports, 0);
    }

    private static void sameReadPorts() {
        for (int x = 0; x <= 9; x++) {
            int y = (x + 1) % 10;
            int z = (x + 2) % 10;
            for (int kind = KahnNet.COPY; kind <= KahnNet.PAIRS; kind++) {
                KahnNet net = new KahnNet(1);
                Check.due("kind " + kind + " of " + x + " twice", net.process(kind, 1100 * x + 10 * y + z, 0),
                    readsTwo(kind) ? KahnNet.TAKEN : 0);
            }
        }
    }

    private static void sameWrittenPorts() {
        for (int x = 0; x <= 9; x++) {
            int y = (x + 1) % 10;
            int z = (x + 2) % 10;
            for (int kind = KahnNet.COPY; kind <= KahnNet.PAIRS; kind++) {
                KahnNet net = new KahnNet(1);
                Check.due("kind " + kind + " to " + x + " twice", net.process(kind, 1000 * y + 100 * z + 11 * x, 0),
                    writesTwo(kind) ? KahnNet.TAKEN : 0);
            }
        }
    }

    /** A channel may be read and written by the same process. */
    private static void ownChannelIsNotTaken() {
        for (int kind = KahnNet.COPY; kind <= KahnNet.PAIRS; kind++) {
            for (int ports : new int[] {3435, 3443, 3453, 3454, 4353, 4335}) {
                KahnNet net = new KahnNet(1);
                Check.due("process(" + kind + ", " + ports + ", 0)", net.process(kind, ports, 0), 0);
                Check.due("process(" + kind + ", " + ports + ", 0) again", net.process(kind, ports, 0), KahnNet.TAKEN);
            }
        }
    }

    private static void fullComesFirst() {
        KahnNet net = Nets.ofSources(8);
        Check.due("FULL before BAD, the kind", net.process(0, 1289, 0), KahnNet.FULL);
        Check.due("FULL before BAD, the kind", net.process(8, 1289, 0), KahnNet.FULL);
        Check.due("FULL before BAD, the ports", net.process(KahnNet.SUMS, -1, 0), KahnNet.FULL);
        Check.due("FULL before BAD, the ports", net.process(KahnNet.SUMS, 10000, 0), KahnNet.FULL);
        Check.due("FULL before TAKEN, c", net.process(KahnNet.SUMS, 9000, 0), KahnNet.FULL);
        Check.due("FULL before TAKEN, a and b", net.process(KahnNet.PLUS, 9980, 0), KahnNet.FULL);
        Check.due("FULL before TAKEN, c and d", net.process(KahnNet.COPY, 1088, 0), KahnNet.FULL);
    }

    private static void badComesBeforeTaken() {
        KahnNet net = new KahnNet(1);
        Nets.add(net, KahnNet.SUMS, 10, 0);
        Check.due("SUMS on the same ports", net.process(KahnNet.SUMS, 10, 0), KahnNet.TAKEN);
        Check.due("BAD before TAKEN, the kind", net.process(0, 10, 0), KahnNet.BAD);
        Check.due("BAD before TAKEN, the kind", net.process(8, 10, 0), KahnNet.BAD);
        Check.due("BAD before TAKEN, the ports", net.process(KahnNet.SUMS, 10010, 0), KahnNet.BAD);
        Check.due("BAD before TAKEN, the ports", net.process(KahnNet.SUMS, -10, 0), KahnNet.BAD);
        Check.due("BAD before TAKEN, a and b", net.process(KahnNet.PLUS, 11123, 0), KahnNet.BAD);
        Check.due("BAD before TAKEN, c and d", net.process(KahnNet.COPY, 12333, 0), KahnNet.BAD);
    }

    private static void itsNumber() {
        for (int kind = KahnNet.COPY; kind <= KahnNet.PAIRS; kind++) {
            KahnNet net = new KahnNet(1);
            if (readsTwo(kind)) {
                for (int i = 0; i < 5; i++) {
                    Check.due("kind " + kind, net.process(kind, 1000 * i + 100 * (i + 5) + 10 * i, 0), i);
                }
            } else if (writesTwo(kind)) {
                for (int i = 0; i < 5; i++) {
                    Check.due("kind " + kind, net.process(kind, 1000 * i + 10 * i + i + 5, 0), i);
                }
            } else {
                for (int i = 0; i < 8; i++) {
                    Check.due("kind " + kind, net.process(kind, 1010 * i, 0), i);
                    Check.due("it again", net.process(kind, 1010 * i, 0), i < 7 ? KahnNet.TAKEN : KahnNet.FULL);
                }
            }
        }
    }

    /** All ports there are, for each kind, where a COPY from 1 to 3 and 4 and a PLUS of 5 and 6 to 7 are there. */
    private static void everyPorts() {
        for (int kind = KahnNet.COPY; kind <= KahnNet.PAIRS; kind++) {
            for (int ports = 0; ports <= 9999; ports++) {
                int a = ports / 1000;
                int b = ports / 100 % 10;
                int c = ports / 10 % 10;
                int d = ports % 10;
                boolean taken = readHere(a) || writtenHere(c) || readsTwo(kind) && (readHere(b) || a == b)
                    || writesTwo(kind) && (writtenHere(d) || c == d);
                KahnNet net = new KahnNet(1);
                Nets.add(net, KahnNet.COPY, 1034, 0);
                Nets.add(net, KahnNet.PLUS, 5670, 0);
                Check.due("process(" + kind + ", " + ports + ", 0)", net.process(kind, ports, 0),
                    taken ? KahnNet.TAKEN : 2);
                Check.due("processes()", net.processes(), taken ? 2 : 3);
            }
        }
    }

    private static boolean readHere(int channel) {
        return channel == 1 || channel == 5 || channel == 6;
    }

    private static boolean writtenHere(int channel) {
        return channel == 3 || channel == 4 || channel == 7;
    }

    /** A refused process leaves all streams as they are and its other channels free. */
    private static void refusedAddsNothing() {
        KahnNet net = new KahnNet(1);
        Nets.give(net, 0, 3, 1, 1);
        Nets.add(net, KahnNet.COPY, 12, 0);
        Check.due("c is written", net.process(KahnNet.FIRST, 3010, 7), KahnNet.TAKEN);
        Check.due("a is read", net.process(KahnNet.FIRST, 40, 7), KahnNet.TAKEN);
        Check.due("b is read", net.process(KahnNet.PLUS, 4030, 7), KahnNet.TAKEN);
        Check.due("d is written", net.process(KahnNet.COPY, 4032, 7), KahnNet.TAKEN);
        Check.due("a and b are the same", net.process(KahnNet.JOIN, 4430, 7), KahnNet.TAKEN);
        Check.due("c and d are the same", net.process(KahnNet.COPY, 4033, 7), KahnNet.TAKEN);
        Check.due("the kind is none", net.process(8, 4030, 7), KahnNet.BAD);
        Check.due("the ports are none", net.process(KahnNet.FIRST, 14030, 7), KahnNet.BAD);
        for (int c = 0; c <= 2; c++) {
            Check.stream("after the refused ones", net, c, 1, 2, 3);
        }
        Check.due("processes()", net.processes(), 2);
        Check.due("total()", net.total(), 9);
        Check.due("3 and 4 are free still", net.process(KahnNet.FIRST, 4030, 7), 2);
        Check.due("3 and 4 are free still", net.process(KahnNet.FIRST, 3040, 8), 3);
        Check.due("at(3, 19)", net.at(3, 19), 8);
        Check.due("at(4, 19)", net.at(4, 19), 7);
    }
}
