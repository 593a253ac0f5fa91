/** Promise 9: firstDifference. */
public final class FirstDifferenceTest {
    private FirstDifferenceTest() {
    }

    public static void main(String[] args) {
        Check.says("The first k at which the streams of two channels differ", FirstDifferenceTest::oneIntDiffers);
        Check.says("The first k at which the streams of two channels differ", FirstDifferenceTest::theLastOfTwenty);
        Check.says("one of them has no int while the other has one", FirstDifferenceTest::oneEnds);
        Check.says("one of them has no int while the other has one", FirstDifferenceTest::zeroIsAnInt);
        Check.says("-1 if they are the same", FirstDifferenceTest::same);
        Check.says("-2 for c or d outside 0..9", FirstDifferenceTest::outside);
        Check.end();
    }

    /** Both ways round, since it tells of the two alike. */
    private static void due(KahnNet net, int c, int d, int want) {
        Check.due("firstDifference(" + c + ", " + d + ")", net.firstDifference(c, d), want);
        Check.due("firstDifference(" + d + ", " + c + ")", net.firstDifference(d, c), want);
    }

    private static void oneIntDiffers() {
        KahnNet net = new KahnNet(1);
        Nets.give(net, 0, 5, 1, 1);
        Nets.give(net, 9, 5, 1, 2);
        Nets.give(net, 1, 3, 1, 2);
        Nets.give(net, 2, 5, 2, 1);
        Nets.give(net, 3, 5, Nets.LEAST, 0);
        Nets.give(net, 4, 5, 0, 0);
        due(net, 0, 9, 1);
        due(net, 0, 1, 1);
        due(net, 0, 2, 0);
        due(net, 3, 4, 0);
        // The join takes the int of its a up to the k-th one, where that of b is the smaller one.
        for (int k = 0; k < 12; k++) {
            net = new KahnNet(1);
            Nets.give(net, 0, 12, 0, 10);
            Nets.add(net, KahnNet.COPY, 12, 0);
            Nets.give(net, 3, 1, 10 * k - 5, 0);
            Nets.add(net, KahnNet.JOIN, 1340, 0);
            Check.due("length(4)", net.length(4), k + 1);
            due(net, 2, 4, k);
        }
    }

    private static void theLastOfTwenty() {
        KahnNet net = new KahnNet(1);
        // 1 2 4 .. up to 2 to the 19 on 5; joined with ints just above 2 to the 18, which are the last ones on 9.
        Nets.add(net, KahnNet.FIRST, 2000, 1);
        Nets.add(net, KahnNet.SUMS, 10, 0);
        Nets.add(net, KahnNet.COPY, 1023, 0);
        Nets.add(net, KahnNet.COPY, 3045, 0);
        Nets.giveTwenty(net, (1 << 18) + 1, 8, 6, 7);
        Nets.add(net, KahnNet.JOIN, 4890, 0);
        Check.due("at(5, 18)", net.at(5, 18), 1 << 18);
        Check.due("at(9, 18)", net.at(9, 18), 1 << 18);
        Check.due("at(5, 19)", net.at(5, 19), 1 << 19);
        Check.due("at(9, 19)", net.at(9, 19), (1 << 18) + 1);
        due(net, 5, 9, 19);
    }

    private static void oneEnds() {
        for (int n = 0; n <= 12; n++) {
            for (int m = 0; m <= 12; m++) {
                KahnNet net = new KahnNet(1);
                Nets.give(net, 0, n, 1, 1);
                Nets.give(net, 9, m, 1, 1);
                due(net, 0, 9, n == m ? -1 : Math.min(n, m));
            }
        }
        KahnNet net = new KahnNet(1);
        Nets.add(net, KahnNet.FIRST, 0, 1);
        Nets.give(net, 1, 12, 1, 0);
        due(net, 0, 1, 12);
        net.clear();
        // Nineteen zeros on 6: the first of twenty ints is a one, which is not picked.
        Nets.giveTwenty(net, 0, 2, 0, 1);
        Nets.add(net, KahnNet.COPY, 2034, 0);
        Nets.add(net, KahnNet.FIRST, 3050, 1);
        Nets.add(net, KahnNet.PICK, 5060, 1);
        Check.due("length(6)", net.length(6), 19);
        due(net, 6, 4, 19);
    }

    private static void zeroIsAnInt() {
        KahnNet net = new KahnNet(1);
        Nets.give(net, 3, 1, 0, 0);
        Nets.give(net, 4, 2, 0, 0);
        due(net, 3, 8, 0);
        due(net, 3, 4, 1);
    }

    private static void same() {
        KahnNet net = new KahnNet(1);
        for (int c = 0; c <= 9; c++) {
            for (int d = 0; d <= 9; d++) {
                Check.due("firstDifference of empty ones", net.firstDifference(c, d), -1);
            }
        }
        for (int n = 0; n <= 12; n++) {
            net = new KahnNet(1);
            Nets.give(net, 0, n, 3, 4);
            Nets.give(net, 9, n, 3, 4);
            due(net, 0, 9, -1);
            due(net, 9, 9, -1);
        }
        for (int many = 13; many <= 23; many++) {
            net = new KahnNet(1);
            Nets.giveMany(net, many);
            Nets.add(net, KahnNet.COPY, 2089, 0);
            due(net, 8, 9, -1);
            due(net, 2, 9, -1);
            due(net, 2, 2, -1);
        }
    }

    private static void outside() {
        KahnNet net = new KahnNet(1);
        Nets.add(net, KahnNet.FIRST, 0, 0);
        for (int c : new int[] {Nets.LEAST, -256, -10, -2, -1, 10, 11, 16, 256, Nets.GREATEST}) {
            due(net, c, 0, -2);
            due(net, c, 9, -2);
            due(net, c, c, -2);
            due(net, c, 10, -2);
            due(net, c, -1, -2);
        }
        due(net, 0, 9, 0);
    }
}
