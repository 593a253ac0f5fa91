/** Promise 2: source. */
public final class SourceTest {
    private static final int LEAST = Nets.LEAST;
    private static final int GREATEST = Nets.GREATEST;

    private SourceTest() {
    }

    public static void main(String[] args) {
        Check.says("rule is 16 * c + n, with n from 0 to 12", SourceTest::everyRule);
        Check.says("8 processes are there: FULL", SourceTest::full);
        Check.says("rule negative .. BAD", SourceTest::ruleNegative);
        Check.says("c outside 0..9 .. BAD", SourceTest::channelOutside);
        Check.says("n outside 0..12: BAD", SourceTest::amountOutside);
        Check.says("some process writes c: TAKEN", SourceTest::taken);
        Check.says("some process writes c: TAKEN", SourceTest::onlyReadIsNotTaken);
        Check.says("Tested in this order", SourceTest::fullComesFirst);
        Check.says("Tested in this order", SourceTest::badComesBeforeTaken);
        Check.says("Else answers its number.", SourceTest::itsNumber);
        Check.says("Else answers its number.", SourceTest::refusedAddsNothing);
        Check.end();
    }

    private static void everyRule() {
        for (int rule = 0; rule < 160; rule++) {
            int c = rule >> 4;
            int n = rule & 15;
            if (n <= 12) {
                KahnNet net = new KahnNet(1);
                Check.due("source(" + rule + ", 5, 2)", net.source(rule, 5, 2), 0);
                Check.stream("source(" + rule + ", 5, 2)", net, c, Nets.row(n, 5, 2));
                Check.due("total() after it", net.total(), n);
            }
        }
    }

    private static void full() {
        Check.due("source as the eighth", Nets.ofSources(7).source(16 * 9 + 1, 0, 0), 7);
        KahnNet net = Nets.ofSources(8);
        Check.due("source as the ninth", net.source(16 * 8 + 1, 0, 0), KahnNet.FULL);
        Check.due("source as the ninth", net.source(16 * 9 + 12, 0, 0), KahnNet.FULL);
        Check.due("source as the ninth", net.source(16 * 9, 0, 0), KahnNet.FULL);
        Check.due("processes()", net.processes(), 8);
        Check.due("clear()", net.clear(), 8);
        Check.due("source after clear", net.source(16 * 9 + 1, 0, 0), 0);
    }

    private static void ruleNegative() {
        for (int rule : new int[] {-1, -2, -3, -4, -8, -12, -15, -16, -17, -32, -256, -65536, LEAST + 5, LEAST}) {
            refused(rule, KahnNet.BAD);
        }
    }

    private static void channelOutside() {
        for (int rule : new int[] {160, 161, 172, 176, 256, 1600, 4096, 65536, 1 << 20, 1 << 28, 1 << 30}) {
            refused(rule, KahnNet.BAD);
        }
        refused(GREATEST - 15, KahnNet.BAD);
        refused(GREATEST, KahnNet.BAD);
        Check.due("source(144 + 12, 0, 0)", new KahnNet(1).source(144 + 12, 0, 0), 0);
    }

    private static void amountOutside() {
        for (int c = 0; c <= 9; c++) {
            refused(16 * c + 13, KahnNet.BAD);
            refused(16 * c + 14, KahnNet.BAD);
            refused(16 * c + 15, KahnNet.BAD);
            Check.due("n is 12", new KahnNet(1).source(16 * c + 12, 0, 0), 0);
            Check.due("n is 0", new KahnNet(1).source(16 * c, 0, 0), 0);
        }
    }

    private static void refused(int rule, int answer) {
        KahnNet net = new KahnNet(1);
        Check.due("source(" + rule + ", 5, 2)", net.source(rule, 5, 2), answer);
        Check.due("processes() after it", net.processes(), 0);
        Check.due("total() after it", net.total(), 0);
    }

    private static void taken() {
        KahnNet net = new KahnNet(1);
        Check.due("source(0, 1, 1), which writes no int", net.source(0, 1, 1), 0);
        Check.due("source where that one writes", net.source(3, 1, 1), KahnNet.TAKEN);
        Check.due("source where that one writes", net.source(0, 1, 1), KahnNet.TAKEN);
        for (int kind = KahnNet.COPY; kind <= KahnNet.PAIRS; kind++) {
            net = new KahnNet(1);
            Nets.add(net, kind, 1234, 0);
            Check.due("source on the c of kind " + kind, net.source(16 * 3 + 1, 1, 1), KahnNet.TAKEN);
            Check.due("source on 4 with kind " + kind, net.source(16 * 4 + 1, 1, 1),
                kind == KahnNet.COPY ? KahnNet.TAKEN : 1);
        }
        for (int last = 0; last < 8; last++) {
            net = Nets.ofSources(7);
            Check.due("source on " + last, net.source(16 * last + 1, 1, 1), last < 7 ? KahnNet.TAKEN : 7);
        }
    }

    private static void onlyReadIsNotTaken() {
        for (int kind = KahnNet.COPY; kind <= KahnNet.PAIRS; kind++) {
            KahnNet net = new KahnNet(1);
            Nets.add(net, kind, 1234, 0);
            Check.due("source on the a of kind " + kind, net.source(16 * 1 + 2, 1, 1), 1);
            Check.due("source on the b of kind " + kind, net.source(16 * 2 + 2, 1, 1), 2);
            Check.stream("source on the a of kind " + kind, net, 1, 1, 2);
            Check.stream("source on the b of kind " + kind, net, 2, 1, 2);
        }
    }

    private static void fullComesFirst() {
        KahnNet net = Nets.ofSources(8);
        Check.due("FULL before BAD, rule negative", net.source(-1, 0, 0), KahnNet.FULL);
        Check.due("FULL before BAD, rule negative", net.source(LEAST, 0, 0), KahnNet.FULL);
        Check.due("FULL before BAD, c too large", net.source(160, 0, 0), KahnNet.FULL);
        Check.due("FULL before BAD, n too large", net.source(13, 0, 0), KahnNet.FULL);
        Check.due("FULL before TAKEN", net.source(1, 0, 0), KahnNet.FULL);
    }

    private static void badComesBeforeTaken() {
        KahnNet net = Nets.ofSources(7);
        for (int c = 0; c < 7; c++) {
            Check.due("BAD before TAKEN, on " + c, net.source(16 * c + 13, 0, 0), KahnNet.BAD);
        }
    }

    private static void itsNumber() {
        KahnNet net = new KahnNet(1);
        for (int i = 0; i < 8; i++) {
            Check.due("source " + i, net.source(16 * (9 - i) + 1, 0, 0), i);
            Check.due("it again", net.source(16 * (9 - i) + 1, 0, 0), i < 7 ? KahnNet.TAKEN : KahnNet.FULL);
        }
    }

    /** A refused source leaves all streams as they are and its channel free. */
    private static void refusedAddsNothing() {
        KahnNet net = new KahnNet(1);
        Nets.give(net, 0, 3, 1, 1);
        Nets.add(net, KahnNet.COPY, 12, 0);
        Check.due("source(2, 8, 8)", net.source(2, 8, 8), KahnNet.TAKEN);
        Check.due("source(28, 8, 8)", net.source(28, 8, 8), KahnNet.TAKEN);
        Check.due("source(61, 8, 8)", net.source(61, 8, 8), KahnNet.BAD);
        Check.due("source(160, 8, 8)", net.source(160, 8, 8), KahnNet.BAD);
        for (int c = 0; c <= 2; c++) {
            Check.stream("after the refused ones", net, c, 1, 2, 3);
        }
        Check.due("total()", net.total(), 9);
        Check.due("processes()", net.processes(), 2);
        Check.due("3 is free still", net.source(50, 8, 8), 2);
        Check.stream("after the refused ones", net, 3, 8, 16);
    }
}
