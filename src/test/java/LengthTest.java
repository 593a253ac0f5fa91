/** Promise 5: length. */
public final class LengthTest {
    private LengthTest() {
    }

    public static void main(String[] args) {
        Check.says("The number of ints in the stream of a channel", LengthTest::fromNoneToTwenty);
        Check.says("BAD for c outside 0..9", LengthTest::outside);
        Check.end();
    }

    private static void fromNoneToTwenty() {
        for (int c = 0; c <= 9; c++) {
            for (int n = 0; n <= 12; n++) {
                KahnNet net = new KahnNet(1);
                Nets.give(net, c, n, 0, 0);
                Check.due("length(" + c + ")", net.length(c), n);
                Check.due("length of the next one", net.length((c + 1) % 10), 0);
            }
            KahnNet net = new KahnNet(1);
            Check.due("length(" + c + ") of a new object", net.length(c), 0);
            Nets.add(net, KahnNet.FIRST, 1010 * c, 0);
            Check.due("length(" + c + ") of a full channel", net.length(c), 20);
            Check.due("length of the next one", net.length((c + 1) % 10), 0);
        }
        for (int many = 13; many <= 23; many++) {
            KahnNet net = new KahnNet(1);
            Nets.giveMany(net, many);
            Check.due("length(2) of " + many, net.length(2), Math.min(many, 20));
        }
    }

    private static void outside() {
        for (int c : new int[] {Nets.LEAST, -256, -10, -2, -1, 10, 11, 12, 16, 20, 199, 200, 256, Nets.GREATEST}) {
            Check.due("length(" + c + ") of a new object", new KahnNet(1).length(c), KahnNet.BAD);
            KahnNet net = new KahnNet(1);
            Nets.add(net, KahnNet.FIRST, 0, 0);
            Nets.add(net, KahnNet.FIRST, 9090, 0);
            Check.due("length(" + c + ")", net.length(c), KahnNet.BAD);
            Check.due("length(0)", net.length(0), 20);
            Check.due("length(9)", net.length(9), 20);
        }
    }
}
