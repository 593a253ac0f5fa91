import java.math.BigInteger;

/** Promise 10: what SOURCE and PAIRS write wraps. */
public final class WrapTest {
    private static final String SENTENCE = "What SOURCE and PAIRS write wraps as ints do, too.";
    private static final int LEAST = Nets.LEAST;
    private static final int GREATEST = Nets.GREATEST;
    private static final int[] FAR = {LEAST, LEAST + 1, -(1 << 30), -1, 0, 1, 1 << 30, GREATEST - 1, GREATEST};

    private WrapTest() {
    }

    public static void main(String[] args) {
        Check.says(SENTENCE, WrapTest::sourceWraps);
        Check.says(SENTENCE, WrapTest::everyFarSource);
        Check.says(SENTENCE, WrapTest::pairsWrap);
        Check.says(SENTENCE, WrapTest::everyFarPair);
        Check.end();
    }

    private static void sourceWraps() {
        KahnNet net = new KahnNet(1);
        Nets.give(net, 0, 4, GREATEST, 1);
        Check.stream("SOURCE wraps upwards", net, 0, GREATEST, LEAST, LEAST + 1, LEAST + 2);
        Nets.give(net, 1, 4, LEAST + 1, -1);
        Check.stream("SOURCE wraps downwards", net, 1, LEAST + 1, LEAST, GREATEST, GREATEST - 1);
        Nets.give(net, 2, 4, LEAST, GREATEST);
        Check.stream("SOURCE with a great q", net, 2, LEAST, -1, GREATEST - 1, -3);
        Nets.give(net, 3, 4, 0, LEAST);
        Check.stream("SOURCE with the least q", net, 3, 0, LEAST, 0, LEAST);
        Nets.give(net, 4, 12, GREATEST - 10, 1);
        Check.due("the last of twelve wraps", net.at(4, 11), LEAST);
        Check.due("the one before it does not", net.at(4, 10), GREATEST);
    }

    private static int wrapped(BigInteger x) {
        return x.intValue();
    }

    private static void everyFarSource() {
        for (int p : FAR) {
            for (int q : FAR) {
                KahnNet net = new KahnNet(1);
                Nets.give(net, 0, 12, p, q);
                for (int k = 0; k < 12; k++) {
                    BigInteger far = BigInteger.valueOf(q).multiply(BigInteger.valueOf(k)).add(BigInteger.valueOf(p));
                    Check.due("int " + k + " of " + p + " and " + q, net.at(0, k), wrapped(far));
                }
            }
        }
    }

    private static void pairsWrap() {
        checkPair(LEAST, 1, GREATEST);
        checkPair(GREATEST, -1, LEAST);
        checkPair(0, LEAST, LEAST);
        checkPair(LEAST, GREATEST, 1);
        checkPair(GREATEST, LEAST, -1);
        checkPair(-1, LEAST, GREATEST);
        checkPair(LEAST, LEAST, 0);
    }

    private static void everyFarPair() {
        for (int x : FAR) {
            for (int y : FAR) {
                checkPair(x, y, wrapped(BigInteger.valueOf(x).subtract(BigInteger.valueOf(y))));
            }
        }
    }

    private static void checkPair(int x, int y, int due) {
        KahnNet net = new KahnNet(1);
        Nets.give(net, 0, 1, y, 0);
        Nets.add(net, KahnNet.FIRST, 10, x);
        Nets.add(net, KahnNet.PAIRS, 1020, 0);
        Check.stream("PAIRS of " + x + " and " + y, net, 2, due);
    }
}
