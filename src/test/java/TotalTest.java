/** Promise 8: total. */
public final class TotalTest {
    private static final String SENTENCE = "The number of ints in all streams together.";

    private TotalTest() {
    }

    public static void main(String[] args) {
        Check.says(SENTENCE, TotalTest::noInts);
        Check.says(SENTENCE, TotalTest::everyChannelCounts);
        Check.says(SENTENCE, TotalTest::tenFullChannels);
        Check.says(SENTENCE, TotalTest::whatIsCutDoesNotCount);
        Check.end();
    }

    private static void noInts() {
        KahnNet net = new KahnNet(1);
        Check.due("total() of a new object", net.total(), 0);
        Nets.give(net, 0, 0, 1, 1);
        Check.due("total() with a source of no ints", net.total(), 0);
        Nets.add(net, KahnNet.COPY, 12, 0);
        Check.due("total() with a COPY of nothing", net.total(), 0);
        net.clear();
        Check.due("total() after clear", net.total(), 0);
    }

    private static void everyChannelCounts() {
        for (int c = 0; c <= 9; c++) {
            KahnNet net = new KahnNet(1);
            Nets.give(net, c, 12, 0, 0);
            Check.due("total() with twelve zeros on " + c, net.total(), 12);
        }
        KahnNet net = new KahnNet(1);
        int sum = 0;
        for (int c = 2; c <= 9; c++) {
            Nets.give(net, c, c, 0, 0);
            sum += c;
            Check.due("total()", net.total(), sum);
        }
    }

    private static void tenFullChannels() {
        KahnNet net = new KahnNet(1);
        Nets.giveTwenty(net, 1, 2, 0, 1);
        Check.due("total() of three full channels", net.total(), 60);
        Nets.add(net, KahnNet.COPY, 2034, 0);
        Nets.add(net, KahnNet.COPY, 3056, 0);
        Nets.add(net, KahnNet.COPY, 4078, 0);
        Check.due("total() of nine full channels", net.total(), 180);
        Nets.add(net, KahnNet.SUMS, 5090, 0);
        Check.due("total() of ten full channels", net.total(), 200);
        Check.due("at(9, 19)", net.at(9, 19), 20);
    }

    private static void whatIsCutDoesNotCount() {
        for (int many = 13; many <= 23; many++) {
            KahnNet net = new KahnNet(1);
            Nets.giveMany(net, many);
            Check.due("total() with " + many + " ints on 2", net.total(), 12 + (many - 11) + Math.min(many, 20));
        }
    }
}
