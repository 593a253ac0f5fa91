/** Promise 6: at. */
public final class AtTest {
    private static final int[] FAR = {Nets.LEAST, Nets.LEAST + 1, -200, -21, -20, -2, -1, 20, 21, 40, 199, 200, 256,
        1 << 28, Nets.GREATEST - 1, Nets.GREATEST};

    private AtTest() {
    }

    public static void main(String[] args) {
        Check.says("Int number k, from 0, of the stream of a channel", AtTest::fromZero);
        Check.says("0 if there is none", AtTest::behindTheLast);
        Check.says("0 if there is none", AtTest::noLongerThere);
        Check.says("0 if there is none", AtTest::farOutside);
        Check.says("0 if there is none", AtTest::noSuchChannel);
        Check.end();
    }

    private static void fromZero() {
        for (int c = 0; c <= 9; c++) {
            KahnNet net = new KahnNet(1);
            Nets.give(net, c, 12, 100 + c, 10);
            for (int k = 0; k < 12; k++) {
                Check.due("at(" + c + ", " + k + ")", net.at(c, k), 100 + c + 10 * k);
            }
        }
        KahnNet net = new KahnNet(1);
        int[] ints = Nets.giveMany(net, 20);
        for (int k = 0; k < 20; k++) {
            Check.due("at(2, " + k + ")", net.at(2, k), ints[k]);
        }
    }

    private static void behindTheLast() {
        for (int n = 0; n <= 12; n++) {
            KahnNet net = new KahnNet(1);
            Nets.give(net, 3, n, 5, 0);
            Nets.give(net, 4, 12, 6, 0);
            for (int k = 0; k < 24; k++) {
                Check.due("at(3, " + k + ") of " + n, net.at(3, k), k < n ? 5 : 0);
            }
        }
        for (int many = 13; many <= 23; many++) {
            KahnNet net = new KahnNet(1);
            int[] ints = Nets.giveMany(net, many);
            Nets.give(net, 3, 12, 6, 0);
            for (int k = many; k < 40; k++) {
                Check.due("at(2, " + k + ") of " + many, net.at(2, k), 0);
            }
            Check.due("at(2, 20) of " + many, net.at(2, 20), 0);
            Check.due("at(2, 19) of " + many, net.at(2, 19), many < 20 ? 0 : ints[19]);
        }
    }

    /** Ints that were there before a clear are none of the stream that follows. */
    private static void noLongerThere() {
        KahnNet net = new KahnNet(1);
        for (int c = 0; c < 8; c++) {
            Nets.add(net, KahnNet.FIRST, 1010 * c, 7);
        }
        net.clear();
        Nets.give(net, 3, 5, 4, 0);
        for (int k = 0; k < 20; k++) {
            Check.due("at(3, " + k + ")", net.at(3, k), k < 5 ? 4 : 0);
            Check.due("at(4, " + k + ")", net.at(4, k), 0);
        }
    }

    private static void farOutside() {
        KahnNet net = new KahnNet(1);
        for (int c = 1; c <= 8; c++) {
            Nets.add(net, KahnNet.FIRST, 1010 * c, 7);
        }
        for (int k : FAR) {
            for (int c = 0; c <= 9; c++) {
                Check.due("at(" + c + ", " + k + ")", net.at(c, k), 0);
            }
        }
        Check.due("at(0, 0), which no process writes", net.at(0, 0), 0);
        Check.due("at(9, 19), which no process writes", net.at(9, 19), 0);
        Check.due("at(8, 19)", net.at(8, 19), 7);
    }

    /** A channel that does not exist has no int: the document tells no BAD here. */
    private static void noSuchChannel() {
        KahnNet net = new KahnNet(1);
        Nets.add(net, KahnNet.FIRST, 0, 7);
        Nets.add(net, KahnNet.FIRST, 9090, 7);
        Nets.add(net, KahnNet.FIRST, 8080, 7);
        for (int c : new int[] {Nets.LEAST, -256, -10, -2, -1, 10, 11, 16, 256, 1 << 28, Nets.GREATEST}) {
            Check.due("at(" + c + ", 0)", net.at(c, 0), 0);
            Check.due("at(" + c + ", 1)", net.at(c, 1), 0);
            Check.due("at(" + c + ", 19)", net.at(c, 19), 0);
            for (int k : FAR) {
                Check.due("at(" + c + ", " + k + ")", net.at(c, k), 0);
            }
        }
        Check.due("at(9, 19)", net.at(9, 19), 7);
        Check.due("at(0, 0)", net.at(0, 0), 7);
    }
}
