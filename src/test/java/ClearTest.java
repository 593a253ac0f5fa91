/** Promise 4: clear. */
public final class ClearTest {
    private ClearTest() {
    }

    public static void main(String[] args) {
        Check.says("answers how many there were", ClearTest::howMany);
        Check.says("Takes all processes away", ClearTest::streamsAreEmpty);
        Check.says("Takes all processes away", ClearTest::portsAreFree);
        Check.says("Takes all processes away", ClearTest::numbersStartAgain);
        Check.end();
    }

    private static void howMany() {
        KahnNet net = new KahnNet(3);
        Check.due("clear() of a new object", net.clear(), 0);
        Check.due("clear() once more", net.clear(), 0);
        for (int many = 0; many <= 8; many++) {
            net = Nets.ofSources(many);
            Check.due("clear() of " + many, net.clear(), many);
            Check.due("clear() once more", net.clear(), 0);
        }
        net = Nets.ofSources(8);
        Check.due("a ninth one", net.source(144, 0, 0), KahnNet.FULL);
        Check.due("clear() does not count a refused one", net.clear(), 8);
    }

    private static void streamsAreEmpty() {
        KahnNet net = new KahnNet(1);
        fillAll(net);
        Check.due("total() before clear", net.total(), 200);
        Check.due("clear()", net.clear(), 6);
        for (int c = 0; c <= 9; c++) {
            Check.due("length(" + c + ")", net.length(c), 0);
            Check.due("at(" + c + ", 0)", net.at(c, 0), 0);
            Check.due("at(" + c + ", 19)", net.at(c, 19), 0);
            Check.due("firstDifference(" + c + ", 0)", net.firstDifference(c, 0), -1);
        }
        Check.due("total()", net.total(), 0);
        Check.due("processes()", net.processes(), 0);
        // What was written before does not come back behind what is written now.
        Nets.give(net, 5, 1, 44, 0);
        Check.stream("a new source", net, 5, 44);
        Check.due("at(5, 1)", net.at(5, 1), 0);
        Nets.add(net, KahnNet.COPY, 5034, 0);
        Check.stream("a new copy", net, 3, 44);
        Check.due("total()", net.total(), 3);
    }

    /** All ten channels full: an endless loop over a COPY, whose other end feeds the rest. */
    private static void fillAll(KahnNet net) {
        Nets.giveTwenty(net, 1, 2, 0, 1);
        Nets.add(net, KahnNet.COPY, 2034, 0);
        Nets.add(net, KahnNet.COPY, 3056, 0);
        Nets.add(net, KahnNet.COPY, 4078, 0);
        Nets.add(net, KahnNet.SUMS, 5090, 0);
    }

    private static void portsAreFree() {
        KahnNet net = new KahnNet(1);
        for (int round = 0; round < 3; round++) {
            fillAll(net);
            Check.due("clear()", net.clear(), 6);
        }
        Check.due("a reader and a writer", net.process(KahnNet.PLUS, 2350, 0), 0);
        Check.due("a writer", net.source(16 * 2 + 2, 1, 1), 1);
        Check.due("a writer", net.source(16 * 3 + 2, 10, 10), 2);
        Check.stream("the old processes write no more", net, 5, 11, 22);
        Check.due("total()", net.total(), 6);
    }

    private static void numbersStartAgain() {
        KahnNet net = new KahnNet(1);
        for (int many = 1; many <= 8; many++) {
            for (int i = 0; i < many; i++) {
                Check.due("number", net.source(16 * i + 2, many, 1), i);
            }
            Check.due("at(0, 1)", net.at(0, 1), many + 1);
            Check.due("clear()", net.clear(), many);
            Check.due("processes()", net.processes(), 0);
        }
        Check.due("the first one after all", net.process(KahnNet.FIRST, 9090, 0), 0);
    }
}
