/** The section "Terms", its first part: processes, channels and streams. */
public final class TermsTest {
    private TermsTest() {
    }

    public static void main(String[] args) {
        Check.says("There are up to 8 PROCESSES, numbered from 0", TermsTest::eightProcesses);
        Check.says("10 CHANNELS, 0 to 9", TermsTest::tenChannels);
        Check.says("at most one process that writes it", TermsTest::oneWriter);
        Check.says("at most one that reads it", TermsTest::oneReader);
        Check.says("everything that is ever written to it, in order", TermsTest::whatIsReadStays);
        Check.says("but at most its first 20 ints", TermsTest::twentyInts);
        Check.says("A channel that no process writes has the empty stream.", TermsTest::noWriter);
        Check.says("reads up to two channels a and b and writes up to two channels c and d", TermsTest::fourPorts);
        Check.end();
    }

    private static void eightProcesses() {
        KahnNet net = new KahnNet(1);
        Check.due("number 0", net.source(4, 1, 1), 0);
        Check.due("number 1", net.process(KahnNet.COPY, 12, 0), 1);
        Check.due("number 2", net.process(KahnNet.PLUS, 1230, 0), 2);
        Check.due("number 3", net.process(KahnNet.FIRST, 3040, 0), 3);
        Check.due("number 4", net.process(KahnNet.PICK, 4050, 0), 4);
        Check.due("number 5", net.process(KahnNet.JOIN, 8970, 0), 5);
        Check.due("number 6", net.process(KahnNet.SUMS, 5060, 0), 6);
        Check.due("number 7", net.process(KahnNet.PAIRS, 6080, 0), 7);
        Check.due("a ninth one", net.source(144, 1, 1), KahnNet.FULL);
        Check.due("a ninth one", net.process(KahnNet.FIRST, 7090, 0), KahnNet.FULL);
        Check.stream("the eighth one runs like the others", net, 8, -2, -6);
        Check.stream("a ninth one writes nothing", net, 9);
    }

    private static void tenChannels() {
        for (int c = 0; c <= 9; c++) {
            KahnNet net = new KahnNet(1);
            int next = (c + 1) % 10;
            int last = (c + 9) % 10;
            Nets.give(net, c, 3, 10 * c, 1);
            Nets.add(net, KahnNet.COPY, 1000 * c + 10 * next + last, 0);
            Check.stream("source on " + c, net, c, 10 * c, 10 * c + 1, 10 * c + 2);
            Check.stream("COPY of " + c, net, next, 10 * c, 10 * c + 1, 10 * c + 2);
            Check.stream("COPY of " + c, net, last, 10 * c, 10 * c + 1, 10 * c + 2);
            Check.due("total()", net.total(), 9);
        }
        Check.due("source on channel 10", new KahnNet(1).source(160, 0, 0), KahnNet.BAD);
        Check.due("length(10)", new KahnNet(1).length(10), KahnNet.BAD);
        Check.due("length(-1)", new KahnNet(1).length(-1), KahnNet.BAD);
    }

    private static void oneWriter() {
        for (int c = 0; c <= 9; c++) {
            KahnNet net = new KahnNet(1);
            int other = (c + 1) % 10;
            Nets.add(net, KahnNet.SUMS, 1000 * c + 10 * other, 0);
            Check.due("a writer of what is only read", net.source(16 * c + 1, 5, 0), 1);
            Check.due("a second writer", net.source(16 * c + 1, 6, 0), KahnNet.TAKEN);
            Check.due("a second writer", net.process(KahnNet.FIRST, 1000 * other + 10 * c, 0), KahnNet.TAKEN);
            Check.stream("what the one writer writes", net, c, 5);
        }
    }

    private static void oneReader() {
        for (int c = 0; c <= 9; c++) {
            KahnNet net = new KahnNet(1);
            int other = (c + 1) % 10;
            int third = (c + 2) % 10;
            Nets.give(net, c, 1, 5, 0);
            Check.due("a reader of what is only written", net.process(KahnNet.SUMS, 1000 * c + 10 * other, 0), 1);
            Check.due("a second reader", net.process(KahnNet.SUMS, 1000 * c + 10 * third, 0), KahnNet.TAKEN);
            Check.stream("what the one reader writes", net, other, 5);
            Check.stream("what no second reader writes", net, third);
        }
    }

    private static void whatIsReadStays() {
        KahnNet net = new KahnNet(1);
        Nets.give(net, 0, 12, 5, -3);
        Check.stream("before it is read", net, 0, Nets.row(12, 5, -3));
        Nets.add(net, KahnNet.PAIRS, 10, 0);
        Check.stream("after it was read", net, 0, Nets.row(12, 5, -3));
        Nets.add(net, KahnNet.PICK, 1020, -1);
        Check.stream("after it was read", net, 1, Nets.row(6, 3, 0));
    }

    private static void twentyInts() {
        for (int many = 13; many <= 23; many++) {
            KahnNet net = new KahnNet(1);
            int[] ints = Nets.giveMany(net, many);
            Check.due("length(2) of " + many, net.length(2), Math.min(many, 20));
            Check.stream(many + " ints", net, 2, Nets.cut(ints));
            Check.due("at(2, 19) of " + many, net.at(2, 19), many < 20 ? 0 : ints[19]);
            Check.due("at(2, 20) of " + many, net.at(2, 20), 0);
            Check.stream("the channel behind it", net, 3);
        }
    }

    private static void noWriter() {
        KahnNet net = new KahnNet(1);
        for (int c = 0; c <= 9; c++) {
            Check.stream("a new object", net, c);
        }
        Nets.add(net, KahnNet.COPY, 12, 0);
        Nets.add(net, KahnNet.PLUS, 3450, 0);
        for (int c = 0; c <= 9; c++) {
            Check.stream("all that is read is empty", net, c);
        }
        Nets.give(net, 0, 12, 1, 1);
        Check.stream("only read", net, 3);
        Check.stream("only read", net, 4);
        Check.stream("neither read nor written", net, 9);
        net.clear();
        Check.stream("no longer written", net, 0);
    }

    /** All four ports at once: those of a PLUS and those of a COPY, in an order that is not that of their letters. */
    private static void fourPorts() {
        KahnNet net = new KahnNet(1);
        Nets.give(net, 9, 2, 1, 1);
        Nets.give(net, 0, 2, 10, 10);
        Nets.add(net, KahnNet.PLUS, 9053, 0);
        Nets.add(net, KahnNet.COPY, 5081, 0);
        Check.stream("PLUS of 9 and 0 to 5", net, 5, 11, 22);
        Check.stream("COPY of 5 to 8 and 1", net, 8, 11, 22);
        Check.stream("COPY of 5 to 8 and 1", net, 1, 11, 22);
        Check.stream("PLUS has no d", net, 3);
        Check.due("total()", net.total(), 10);
    }
}
