import java.util.Arrays;

/** What many tests build their networks with. */
final class Nets {
    static final int LEAST = Integer.MIN_VALUE;
    static final int GREATEST = Integer.MAX_VALUE;

    private Nets() {
    }

    /** Adds a SOURCE that must be taken in. */
    static void give(KahnNet net, int c, int n, int p, int q) {
        int due = net.processes();
        int rule = 16 * c + n;
        Check.due("source(" + rule + ", " + p + ", " + q + ")", net.source(rule, p, q), due);
    }

    /** Adds a process that must be taken in. */
    static void add(KahnNet net, int kind, int ports, int number) {
        int due = net.processes();
        Check.due("process(" + kind + ", " + ports + ", " + number + ")", net.process(kind, ports, number), due);
    }

    /** A network of so many processes, each a SOURCE of one int: on channels 0, 1, and so on. */
    static KahnNet ofSources(int many) {
        KahnNet net = new KahnNet(1);
        for (int c = 0; c < many; c++) {
            give(net, c, 1, c, 0);
        }
        return net;
    }

    /** The n ints p, p + q, p + 2 q, and so on. */
    static int[] row(int n, int p, int q) {
        int[] ints = new int[n];
        int x = p;
        for (int k = 0; k < n; k++) {
            ints[k] = x;
            x += q;
        }
        return ints;
    }

    /**
     * Writes just so many rising ints to channel 2, from 13 to 23, more than a SOURCE can: channels 0 and 1 are
     * joined in it. Answers the ints, the ones that are to be cut among them.
     */
    static int[] giveMany(KahnNet net, int many) {
        int between = many - 12;
        give(net, 0, 12, 0, 10);
        // The last int of channel 1 is greater than all of channel 0, so that it is never written.
        give(net, 1, between + 1, 115 - 10 * between, 10);
        add(net, KahnNet.JOIN, 120, 0);
        int[] ints = Arrays.copyOf(row(12, 0, 10), many);
        System.arraycopy(row(between, 115 - 10 * between, 10), 0, ints, 12, between);
        Arrays.sort(ints);
        return ints;
    }

    /** Writes the same int 20 times to channel c: a loop through c and the channel that is used for it. */
    static void giveTwenty(KahnNet net, int x, int c, int used, int back) {
        add(net, KahnNet.FIRST, 1000 * back + 10 * used, x);
        add(net, KahnNet.COPY, 1000 * used + 10 * back + c, 0);
    }

    static int[] twenty(int x) {
        return row(20, x, 0);
    }

    static int[] cut(int[] ints) {
        return ints.length > 20 ? Arrays.copyOf(ints, 20) : ints;
    }
}
