import java.util.Arrays;

/** The section "Terms", its second part: what each kind writes of empty, short, long and far-off streams. */
public final class KindsTest {
    private static final int LEAST = Nets.LEAST;
    private static final int GREATEST = Nets.GREATEST;

    private KindsTest() {
    }

    public static void main(String[] args) {
        Check.says("n ints in all (n from 0 to 12)", KindsTest::sourceAmounts);
        Check.says("writes every int of a to c and to d", KindsTest::copies);
        Check.says("as long as both have one", KindsTest::plusLengths);
        Check.says("as long as both have one", KindsTest::plusOfMany);
        Check.says("(sums wrap)", KindsTest::plusWraps);
        Check.says("writes p and then all ints of a", KindsTest::firsts);
        Check.says("writes those ints x of a for which (x & m) is 0", KindsTest::picks);
        Check.says("writes those ints x of a for which (x & m) is 0", KindsTest::picksByBits);
        Check.says("as long as a next one is known", KindsTest::joinLengths);
        Check.says("of the next int of a and the next int of b the smaller one is taken", KindsTest::joinFarInts);
        Check.says("of the next int of a and the next int of b the smaller one is taken", KindsTest::joinFallingInts);
        Check.says("of equal ones that of a", KindsTest::joinEqualInts);
        Check.says("when one of the streams has no further int, nothing more is written", KindsTest::joinEnds);
        Check.says("for each int of a, the sum of all ints of a up to it", KindsTest::runningSums);
        Check.says("(wrapping)", KindsTest::runningSumsWrap);
        Check.says("for each two ints of a, one after the other, their difference, first minus second",
            KindsTest::pairs);
        Check.says("(an odd last one is left)", KindsTest::pairsOfOddStreams);
        Check.end();
    }

    private static void sourceAmounts() {
        for (int n = 0; n <= 12; n++) {
            KahnNet net = new KahnNet(1);
            Nets.give(net, 4, n, 7, -3);
            Check.stream(n + " ints", net, 4, Nets.row(n, 7, -3));
            Check.due("total()", net.total(), n);
        }
        KahnNet net = new KahnNet(1);
        Nets.give(net, 0, 12, 5, 0);
        Check.stream("q is 0", net, 0, Nets.row(12, 5, 0));
    }

    private static void copies() {
        for (int n = 0; n <= 12; n++) {
            KahnNet net = new KahnNet(1);
            Nets.give(net, 7, n, 4, 4);
            Nets.add(net, KahnNet.COPY, 7908, 0);
            Check.stream("COPY to c", net, 0, Nets.row(n, 4, 4));
            Check.stream("COPY to d", net, 8, Nets.row(n, 4, 4));
            Check.stream("COPY leaves a", net, 7, Nets.row(n, 4, 4));
            Check.stream("COPY has no b", net, 9);
        }
        for (int many = 19; many <= 21; many++) {
            KahnNet net = new KahnNet(1);
            int[] ints = Nets.cut(Nets.giveMany(net, many));
            Nets.add(net, KahnNet.COPY, 2034, 0);
            Check.stream("COPY of " + many, net, 3, ints);
            Check.stream("COPY of " + many, net, 4, ints);
        }
    }

    private static void plusLengths() {
        for (int n = 0; n <= 12; n++) {
            for (int m = 0; m <= 12; m++) {
                KahnNet net = new KahnNet(1);
                Nets.give(net, 0, n, 1, 1);
                Nets.give(net, 1, m, 10, 10);
                Nets.add(net, KahnNet.PLUS, 120, 0);
                Check.stream("PLUS of " + n + " and " + m, net, 2, Nets.row(Math.min(n, m), 11, 11));
            }
        }
        KahnNet net = new KahnNet(1);
        Nets.give(net, 0, 3, 1, 1);
        Nets.give(net, 1, 3, 1, 1);
        Nets.add(net, KahnNet.PLUS, 920, 0);
        Nets.add(net, KahnNet.PLUS, 8130, 0);
        Check.stream("PLUS, no process writes b", net, 2);
        Check.stream("PLUS, no process writes a", net, 3);
    }

    private static void plusOfMany() {
        for (int many = 18; many <= 21; many++) {
            KahnNet net = new KahnNet(1);
            int[] ints = Nets.cut(Nets.giveMany(net, many));
            int[] sums = Arrays.stream(ints).map(x -> x + 3).toArray();
            Nets.giveTwenty(net, 3, 5, 3, 4);
            boolean swapped = many % 2 == 0;
            Nets.add(net, KahnNet.PLUS, swapped ? 5260 : 2560, 0);
            Check.stream("PLUS of " + many + " and 20", net, 6, sums);
        }
    }

    private static void plusWraps() {
        int[][] cases = {{GREATEST, 1, LEAST}, {1, GREATEST, LEAST}, {LEAST, -1, GREATEST}, {-1, LEAST, GREATEST},
            {LEAST, LEAST, 0}, {GREATEST, GREATEST, -2}, {GREATEST, LEAST, -1}, {GREATEST, 0, GREATEST},
            {0, LEAST, LEAST}};
        for (int[] one : cases) {
            KahnNet net = new KahnNet(1);
            Nets.give(net, 0, 1, one[0], 0);
            Nets.give(net, 1, 1, one[1], 0);
            Nets.add(net, KahnNet.PLUS, 120, 0);
            Check.stream("PLUS of " + one[0] + " and " + one[1], net, 2, one[2]);
        }
    }

    private static void firsts() {
        for (int p : new int[] {LEAST, -1, 0, 1, GREATEST}) {
            KahnNet net = new KahnNet(1);
            Nets.add(net, KahnNet.FIRST, 2030, p);
            Check.stream("FIRST of what no process writes", net, 3, p);
            Nets.give(net, 0, 0, 1, 1);
            Nets.add(net, KahnNet.FIRST, 10, p);
            Check.stream("FIRST of an empty stream", net, 1, p);
            Nets.give(net, 4, 2, 8, 1);
            Nets.add(net, KahnNet.FIRST, 4050, p);
            Check.stream("FIRST of two", net, 5, p, 8, 9);
        }
        for (int many = 18; many <= 21; many++) {
            KahnNet net = new KahnNet(1);
            int[] ints = Nets.giveMany(net, many);
            int[] more = new int[many + 1];
            more[0] = -7;
            System.arraycopy(ints, 0, more, 1, many);
            Nets.add(net, KahnNet.FIRST, 2030, -7);
            Check.stream("FIRST of " + many, net, 3, Nets.cut(more));
        }
    }

    private static void picks() {
        int[] ints = Nets.row(12, -6, 1);
        checkPick(ints, 0, ints);
        checkPick(ints, 1, -6, -4, -2, 0, 2, 4);
        checkPick(ints, -1, 0);
        checkPick(ints, LEAST, 0, 1, 2, 3, 4, 5);
        checkPick(ints, GREATEST, 0);
        checkPick(Nets.row(12, 1, 2), 1);
        checkPick(Nets.row(0, 1, 2), 0);
        checkPick(Nets.row(2, LEAST, LEAST), GREATEST, LEAST, 0);
        checkPick(Nets.row(2, LEAST, LEAST), LEAST, 0);
        checkPick(Nets.row(12, 0, 1), 6, 0, 1, 8, 9);
        KahnNet net = new KahnNet(1);
        Nets.add(net, KahnNet.PICK, 10, 0);
        Check.stream("PICK of what no process writes", net, 1);
        int[] many = Nets.giveMany(new KahnNet(1), 21);
        net.clear();
        Nets.giveMany(net, 21);
        Nets.add(net, KahnNet.PICK, 2030, 0);
        Check.stream("PICK of all twenty", net, 3, Nets.cut(many));
    }

    private static void picksByBits() {
        for (int bit = 0; bit < 32; bit++) {
            int m = 1 << bit;
            checkPick(new int[] {m, 0}, m, 0);
            checkPick(new int[] {m, 0}, ~m, m, 0);
            checkPick(new int[] {~m, m}, m, ~m);
            checkPick(new int[] {~m, m}, -1);
        }
    }

    /** PICK of a row of ints, as a SOURCE gives it, writes these. */
    private static void checkPick(int[] ints, int m, int... due) {
        KahnNet net = new KahnNet(1);
        giveRow(net, 0, ints);
        Nets.add(net, KahnNet.PICK, 10, m);
        Check.stream("PICK of " + Arrays.toString(ints) + " by " + m, net, 1, due);
    }

    private static void joinLengths() {
        for (int n = 0; n <= 12; n++) {
            for (int m = 0; m <= 12; m++) {
                checkMerge(Nets.row(n, 1, 3), Nets.row(m, 2, 2));
                checkMerge(Nets.row(n, 4, 2), Nets.row(m, 1, 1));
            }
        }
        KahnNet net = new KahnNet(1);
        Nets.give(net, 0, 3, 1, 1);
        Nets.give(net, 1, 3, 1, 1);
        Nets.add(net, KahnNet.JOIN, 920, 0);
        Nets.add(net, KahnNet.JOIN, 8130, 0);
        Check.stream("JOIN, no process writes b", net, 2);
        Check.stream("JOIN, no process writes a", net, 3);
        net.clear();
        Nets.giveTwenty(net, 5, 2, 0, 1);
        Nets.giveTwenty(net, 6, 5, 3, 4);
        Nets.add(net, KahnNet.JOIN, 5260, 0);
        Check.stream("JOIN of twenty and twenty", net, 6, Nets.twenty(5));
    }

    /** Ints whose difference is no int are still told apart. */
    private static void joinFarInts() {
        int[] far = {LEAST, LEAST + 1, -2, -1, 0, 1, 2, GREATEST - 1, GREATEST};
        for (int x : far) {
            for (int y : far) {
                KahnNet net = new KahnNet(1);
                Nets.give(net, 0, 1, x, 0);
                Nets.give(net, 1, 1, y, 0);
                Nets.add(net, KahnNet.JOIN, 120, 0);
                Check.stream("JOIN of " + x + " and " + y, net, 2, Math.min(x, y));
            }
        }
    }

    /** The next ints alone count, also where smaller ones follow. */
    private static void joinFallingInts() {
        checkJoin(Nets.row(3, 9, -4), Nets.row(2, 6, 1), 6, 7);
        checkJoin(Nets.row(2, 6, 1), Nets.row(3, 9, -4), 6, 7);
        checkJoin(Nets.row(3, 9, -4), Nets.row(3, 8, 1), 8, 9, 5, 1);
        checkJoin(Nets.row(3, 8, 1), Nets.row(3, 9, -4), 8, 9, 9, 5, 1);
        checkJoin(Nets.row(2, 1, -5), Nets.row(2, 1, -5), 1, -4);
    }

    private static void joinEqualInts() {
        // Were those of b taken first, b would end, and its amount would be seen instead.
        for (int n = 1; n <= 12; n++) {
            for (int m = 1; m <= 12; m++) {
                checkJoin(Nets.row(n, 5, 0), Nets.row(m, 5, 0), Nets.row(n, 5, 0));
            }
        }
        checkJoin(Nets.row(3, 1, 1), Nets.row(3, 3, 0), 1, 2, 3);
        checkJoin(Nets.row(3, 3, 0), Nets.row(3, 1, 1), 1, 2, 3, 3, 3);
        checkJoin(Nets.row(2, GREATEST, 0), Nets.row(1, GREATEST, 0), GREATEST, GREATEST);
        checkJoin(Nets.row(1, LEAST, 0), Nets.row(2, LEAST, 0), LEAST);
    }

    private static void joinEnds() {
        checkJoin(Nets.row(1, 1, 0), Nets.row(3, 5, 1), 1);
        checkJoin(Nets.row(3, 5, 1), Nets.row(1, 1, 0), 1);
        checkJoin(Nets.row(12, 1, 1), Nets.row(12, 20, 1), Nets.row(12, 1, 1));
        checkJoin(Nets.row(12, 20, 1), Nets.row(12, 1, 1), Nets.row(12, 1, 1));
        checkJoin(Nets.row(0, 1, 1), Nets.row(12, 1, 1));
        checkJoin(Nets.row(12, 1, 1), Nets.row(0, 1, 1));
        checkJoin(Nets.row(0, 1, 1), Nets.row(0, 1, 1));
    }

    /** JOIN of two rows of ints, as a SOURCE gives each, writes these. */
    private static void checkJoin(int[] a, int[] b, int... due) {
        KahnNet net = new KahnNet(1);
        giveRow(net, 0, a);
        giveRow(net, 1, b);
        Nets.add(net, KahnNet.JOIN, 120, 0);
        Check.stream("JOIN of " + Arrays.toString(a) + " and " + Arrays.toString(b), net, 2, due);
    }

    private static void checkMerge(int[] a, int[] b) {
        checkJoin(a, b, Nets.cut(merge(a, b)));
    }

    private static void giveRow(KahnNet net, int c, int[] ints) {
        int p = ints.length > 0 ? ints[0] : 0;
        int q = ints.length > 1 ? ints[1] - ints[0] : 0;
        Nets.give(net, c, ints.length, p, q);
    }

    private static int[] merge(int[] a, int[] b) {
        int[] merged = new int[a.length + b.length];
        int i = 0;
        int j = 0;
        while (i < a.length && j < b.length) {
            merged[i + j] = Math.min(a[i], b[j]);
            if (a[i] <= b[j]) {
                i++;
            } else {
                j++;
            }
        }
        return Arrays.copyOf(merged, i + j);
    }

    private static void runningSums() {
        KahnNet net = new KahnNet(1);
        Nets.add(net, KahnNet.SUMS, 10, 99);
        Check.stream("SUMS of what no process writes", net, 1);
        for (int n = 0; n <= 12; n++) {
            net = new KahnNet(1);
            Nets.give(net, 0, n, 3, -1);
            Nets.add(net, KahnNet.SUMS, 10, 99);
            Check.stream("SUMS of " + n, net, 1, sumsOf(Nets.row(n, 3, -1)));
        }
        for (int many = 19; many <= 21; many++) {
            net = new KahnNet(1);
            int[] ints = Nets.cut(Nets.giveMany(net, many));
            Nets.add(net, KahnNet.SUMS, 2030, 0);
            Check.stream("SUMS of " + many, net, 3, sumsOf(ints));
        }
    }

    private static int[] sumsOf(int[] ints) {
        int[] sums = ints.clone();
        Arrays.parallelPrefix(sums, (x, y) -> x + y);
        return sums;
    }

    private static void runningSumsWrap() {
        KahnNet net = new KahnNet(1);
        Nets.give(net, 0, 4, GREATEST, 0);
        Nets.add(net, KahnNet.SUMS, 10, 0);
        Check.stream("SUMS wraps upwards", net, 1, GREATEST, -2, GREATEST - 2, -4);
        Nets.give(net, 2, 4, LEAST, 0);
        Nets.add(net, KahnNet.SUMS, 2030, 0);
        Check.stream("SUMS wraps downwards", net, 3, LEAST, 0, LEAST, 0);
        Nets.give(net, 4, 3, GREATEST, -(GREATEST - 1));
        Nets.add(net, KahnNet.SUMS, 4050, 0);
        Check.stream("SUMS wraps by one", net, 5, GREATEST, LEAST, 3);
    }

    private static void pairs() {
        KahnNet net = new KahnNet(1);
        Nets.give(net, 0, 6, 1, 1);
        Nets.add(net, KahnNet.SUMS, 10, 0);
        Nets.add(net, KahnNet.PAIRS, 1020, 99);
        Check.stream("PAIRS of 1 3, 6 10, 15 21", net, 2, -2, -4, -6);
        Nets.add(net, KahnNet.PAIRS, 3040, 0);
        Check.stream("PAIRS of what no process writes", net, 4);
        for (int n = 0; n <= 12; n += 2) {
            net = new KahnNet(1);
            Nets.give(net, 0, n, 9, -5);
            Nets.add(net, KahnNet.PAIRS, 10, 0);
            Check.stream("PAIRS of " + n, net, 1, Nets.row(n / 2, 5, 0));
        }
        for (int many = 20; many <= 22; many++) {
            net = new KahnNet(1);
            int[] ints = Nets.giveMany(net, many);
            Nets.add(net, KahnNet.PAIRS, 2030, 0);
            Check.stream("PAIRS of " + many, net, 3, pairsOf(Nets.cut(ints)));
        }
    }

    private static int[] pairsOf(int[] ints) {
        int[] pairs = new int[ints.length / 2];
        for (int k = 0; k < pairs.length; k++) {
            pairs[k] = ints[2 * k] - ints[2 * k + 1];
        }
        return pairs;
    }

    private static void pairsOfOddStreams() {
        for (int n = 1; n < 12; n += 2) {
            KahnNet net = new KahnNet(1);
            Nets.give(net, 0, n, 9, -5);
            Nets.add(net, KahnNet.PAIRS, 10, 0);
            Check.stream("PAIRS of " + n, net, 1, Nets.row(n / 2, 5, 0));
        }
        for (int many = 13; many <= 19; many += 2) {
            KahnNet net = new KahnNet(1);
            int[] ints = Nets.giveMany(net, many);
            Nets.add(net, KahnNet.PAIRS, 2030, 0);
            Check.stream("PAIRS of " + many, net, 3, pairsOf(ints));
        }
    }
}
