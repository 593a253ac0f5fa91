/** The section "Terms", its last part: the smallest streams, and the cut at 20 ints. */
public final class SmallestTest {
    private SmallestTest() {
    }

    public static void main(String[] args) {
        Check.says("the smallest ones (each as short as it can be)", SmallestTest::loopsOfOne);
        Check.says("the smallest ones (each as short as it can be)", SmallestTest::loopsOfTwo);
        Check.says("the smallest ones (each as short as it can be)", SmallestTest::loopsThatDryUp);
        Check.says("every channel has the first 20 ints of what its process writes", SmallestTest::loopsThatFill);
        Check.says("every channel has the first 20 ints of what its process writes", SmallestTest::longestLoop);
        Check.says("every channel has the first 20 ints of what its process writes", SmallestTest::anyOrderOfAdding);
        Check.says("given the streams of the channels that it reads", SmallestTest::readersSeeTwentyOnly);
        Check.says("A process whose output channel is full writes nothing more to it", SmallestTest::fullChannels);
        Check.says("for COPY both outputs are cut at 20 alike", SmallestTest::copiesAreCutAlike);
        Check.end();
    }

    /** Each kind reads what it writes: many streams would fit, and the empty one is the smallest. */
    private static void loopsOfOne() {
        for (int kind = KahnNet.COPY; kind <= KahnNet.PAIRS; kind++) {
            KahnNet net = new KahnNet(1);
            Nets.give(net, 4, 5, 0, 0);
            Nets.add(net, kind, 3435, 0);
            if (kind == KahnNet.FIRST) {
                Check.stream("FIRST that reads itself", net, 3, Nets.twenty(0));
            } else {
                Check.stream("kind " + kind + " that reads itself", net, 3);
                Check.stream("kind " + kind + " that reads itself", net, 5);
                Check.due("total()", net.total(), 5);
            }
        }
        KahnNet net = new KahnNet(1);
        Nets.give(net, 4, 5, 0, 0);
        Nets.add(net, KahnNet.PLUS, 4330, 0);
        Nets.add(net, KahnNet.COPY, 5065, 0);
        Check.stream("PLUS that reads itself as b", net, 3);
        Check.stream("COPY that reads itself through d", net, 5);
        Check.due("total()", net.total(), 5);
    }

    private static void loopsOfTwo() {
        int[] kinds = {KahnNet.COPY, KahnNet.PICK, KahnNet.SUMS, KahnNet.PAIRS};
        for (int one : kinds) {
            for (int other : kinds) {
                KahnNet net = new KahnNet(1);
                Nets.add(net, one, 12, 0);
                Nets.add(net, other, 1003, 0);
                Check.due("total() of a loop of " + one + " and " + other, net.total(), 0);
            }
        }
    }

    /** A loop that has its first int goes on only as long as each process has what it reads. */
    private static void loopsThatDryUp() {
        KahnNet net = new KahnNet(1);
        Nets.add(net, KahnNet.FIRST, 1000, 5);
        Nets.add(net, KahnNet.PAIRS, 10, 0);
        Check.stream("one int is no pair", net, 0, 5);
        Check.stream("one int is no pair", net, 1);
        net.clear();
        Nets.add(net, KahnNet.FIRST, 1000, 5);
        Nets.add(net, KahnNet.PICK, 10, 1);
        Check.stream("the int is not picked", net, 0, 5);
        Check.stream("the int is not picked", net, 1);
        net.clear();
        Nets.give(net, 3, 4, 1, 1);
        Nets.add(net, KahnNet.FIRST, 2000, 0);
        Nets.add(net, KahnNet.PLUS, 320, 0);
        Check.stream("the source ends", net, 0, 0, 1, 3, 6, 10);
        Check.stream("the source ends", net, 2, 1, 3, 6, 10);
        net.clear();
        Nets.give(net, 3, 2, -2, 1);
        Nets.add(net, KahnNet.FIRST, 2000, 0);
        Nets.add(net, KahnNet.JOIN, 320, 0);
        Check.stream("the source has no further int", net, 2, -2, -1);
        Check.stream("the source has no further int", net, 0, 0, -2, -1);
    }

    private static void loopsThatFill() {
        KahnNet net = new KahnNet(1);
        // Each int from the second on is the sum of all before it.
        Nets.add(net, KahnNet.FIRST, 1000, 1);
        Nets.add(net, KahnNet.SUMS, 10, 0);
        for (int k = 0; k < 20; k++) {
            Check.due("at(1, " + k + ")", net.at(1, k), 1 << k);
            Check.due("at(0, " + k + ")", net.at(0, k), k == 0 ? 1 : 1 << (k - 1));
        }
        Check.due("total()", net.total(), 40);
        net.clear();
        // What JOIN wrote comes back to it behind a 0, so that only zeros are ever the smaller ones.
        Nets.give(net, 0, 3, 1, 1);
        Nets.add(net, KahnNet.JOIN, 120, 0);
        Nets.add(net, KahnNet.FIRST, 2010, 0);
        Check.stream("JOIN in a loop", net, 2, Nets.twenty(0));
        Check.stream("JOIN in a loop", net, 1, Nets.twenty(0));
        net.clear();
        // Two FIRSTs in a loop: each int of one is an int of the other, a step later.
        Nets.add(net, KahnNet.FIRST, 1000, 3);
        Nets.add(net, KahnNet.FIRST, 10, 4);
        for (int k = 0; k < 20; k++) {
            Check.due("at(0, " + k + ")", net.at(0, k), k % 2 == 0 ? 3 : 4);
            Check.due("at(1, " + k + ")", net.at(1, k), k % 2 == 0 ? 4 : 3);
        }
    }

    /** One int at a time goes round through all eight processes, which stand in any turn of the loop's order. */
    private static void longestLoop() {
        for (int stride : new int[] {1, 3, 5, 7}) {
            for (int start = 0; start < 8; start++) {
                KahnNet net = new KahnNet(start);
                for (int i = 0; i < 8; i++) {
                    int c = (start + i * stride) % 8;
                    addToLoop(net, c, (c + 1) % 8);
                }
                String order = " in steps of " + stride + " from " + start;
                Check.due("total() of a loop of eight" + order, net.total(), 200);
                for (int c = 0; c <= 9; c++) {
                    Check.due("at(" + c + ", 19)" + order, net.at(c, 19), 6);
                }
            }
        }
    }

    /** Process 0 of the loop is its FIRST, two are COPYs with an end outside it, the rest hand on what they read. */
    private static void addToLoop(KahnNet net, int a, int c) {
        switch (a) {
            case 0 -> Nets.add(net, KahnNet.FIRST, 10 * c, 6);
            case 3 -> Nets.add(net, KahnNet.COPY, 1000 * a + 10 * c + 8, 0);
            case 6 -> Nets.add(net, KahnNet.COPY, 1000 * a + 90 + c, 0);
            default -> Nets.add(net, KahnNet.PICK, 1000 * a + 10 * c, 1);
        }
    }

    private static void anyOrderOfAdding() {
        int[][] parts = {{KahnNet.COPY, 12, 0}, {KahnNet.PICK, 1030, 1}, {KahnNet.SUMS, 2040, 0},
            {KahnNet.PLUS, 3450, 0}};
        for (int first = 0; first < parts.length; first++) {
            for (int step = 1; step <= 3; step += 2) {
                KahnNet net = new KahnNet(first + 1);
                for (int i = 0; i < parts.length; i++) {
                    int[] part = parts[(first + i * step) % parts.length];
                    Nets.add(net, part[0], part[1], part[2]);
                }
                Check.due("total() without a source", net.total(), 0);
                Nets.give(net, 0, 8, 1, 1);
                Check.stream("the source came last", net, 3, 2, 4, 6, 8);
                Check.stream("the source came last", net, 4, 1, 3, 6, 10, 15, 21, 28, 36);
                Check.stream("the source came last", net, 5, 3, 7, 12, 18);
                Check.due("total()", net.total(), 8 + 8 + 8 + 4 + 8 + 4);
            }
        }
    }

    /** A reader is given the first 20 ints of a channel, so what would stand behind them is never picked. */
    private static void readersSeeTwentyOnly() {
        KahnNet net = new KahnNet(1);
        // A loop that counts 0 1 2 .. without end: a one of another loop is added each time.
        Nets.add(net, KahnNet.FIRST, 2000, 0);
        Nets.add(net, KahnNet.COPY, 13, 0);
        Nets.giveTwenty(net, 1, 6, 4, 5);
        Nets.add(net, KahnNet.PLUS, 1620, 0);
        Check.stream("the loop counts", net, 3, Nets.row(20, 0, 1));
        Nets.add(net, KahnNet.PICK, 3070, 1);
        Check.stream("PICK of the first twenty", net, 7, Nets.row(10, 0, 2));
        Nets.add(net, KahnNet.PAIRS, 7080, 0);
        Check.stream("PAIRS of the ten", net, 8, Nets.row(5, -2, 0));
        Nets.add(net, KahnNet.SUMS, 8090, 0);
        Check.stream("SUMS of the five", net, 9, Nets.row(5, -2, -2));
    }

    private static void fullChannels() {
        for (int many = 20; many <= 23; many++) {
            KahnNet net = new KahnNet(1);
            int[] ints = Nets.cut(Nets.giveMany(net, many));
            Check.stream("a full channel", net, 2, ints);
            Nets.add(net, KahnNet.FIRST, 2030, 1);
            Nets.add(net, KahnNet.FIRST, 3040, 2);
            Check.stream("a full channel whose reader is full, too", net, 2, ints);
            Check.due("length(3)", net.length(3), 20);
            Check.due("at(3, 19)", net.at(3, 19), ints[18]);
            Check.due("length(4)", net.length(4), 20);
            Check.due("at(4, 19)", net.at(4, 19), ints[17]);
            Check.due("at(4, 0)", net.at(4, 0), 2);
            Check.stream("the channel behind a full one", net, 5);
        }
        KahnNet net = new KahnNet(1);
        // A full channel 8 next to channel 9, the last one, full as well.
        Nets.add(net, KahnNet.FIRST, 8080, 3);
        Nets.add(net, KahnNet.FIRST, 9090, 4);
        Check.stream("FIRST that reads itself", net, 8, Nets.twenty(3));
        Check.stream("FIRST that reads itself", net, 9, Nets.twenty(4));
        Check.due("total()", net.total(), 40);
    }

    private static void copiesAreCutAlike() {
        for (int many = 19; many <= 23; many++) {
            KahnNet net = new KahnNet(1);
            int[] ints = Nets.cut(Nets.giveMany(net, many));
            Nets.add(net, KahnNet.COPY, 2034, 0);
            // One output is read to its end, the other is never read.
            Nets.add(net, KahnNet.SUMS, 3050, 0);
            Check.stream("COPY to c", net, 3, ints);
            Check.stream("COPY to d", net, 4, ints);
            Check.due("firstDifference(3, 4)", net.firstDifference(3, 4), -1);
        }
        KahnNet net = new KahnNet(1);
        // One output comes back in the loop, the other leaves it.
        Nets.giveTwenty(net, 7, 2, 0, 1);
        Check.stream("COPY in a loop", net, 1, Nets.twenty(7));
        Check.stream("COPY in a loop", net, 2, Nets.twenty(7));
    }
}
