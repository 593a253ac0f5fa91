import java.util.Random;

/** Long runs of calls, each answer held against that of NetModel, which runs the network with small buffers. */
public final class ModelTest {
    private static final int RUNS = 4000;
    /** As many calls as the document allows on one object. */
    private static final int MOST_CALLS = 512;
    /** So few that all ints of all streams can be looked at afterwards within the calls that are allowed. */
    private static final int FEW_CALLS = 60;
    private static final int[] EDGES = {Integer.MIN_VALUE, -2, -1, 0, 1, 2, 3, 1 << 30, Integer.MAX_VALUE};

    private ModelTest() {
    }

    public static void main(String[] args) {
        for (int run = 0; run < RUNS && !Check.anyWrong(); run++) {
            oneRun(run);
        }
        Check.end();
    }

    /** The seed is the run's number, so that a run that fails can be had again. */
    private static void oneRun(int run) {
        Random random = new Random(run);
        int buffer = random.nextInt(10) - 1;
        KahnNet net = new KahnNet(buffer);
        NetModel model = new NetModel(buffer);
        boolean isLong = run % 50 == 0;
        int calls = isLong ? MOST_CALLS : FEW_CALLS;
        for (int call = 1; call <= calls && !Check.anyWrong(); call++) {
            oneCall("run " + run + ", call " + call + ": ", random, net, model);
        }
        for (int c = 0; c < 10 && !isLong; c++) {
            Check.stream("run " + run + ", after its calls", net, c, model.stream(c));
        }
    }

    private static void oneCall(String where, Random random, KahnNet net, NetModel model) {
        int x = channel(random);
        int y = channel(random);
        switch (random.nextInt(20)) {
            case 0, 1 -> {
                int rule = random.nextInt(30) == 0 ? edge(random) : 16 * x + random.nextInt(14);
                int p = number(random);
                int q = number(random);
                Check.due(where + "source(" + rule + ", " + p + ", " + q + ")",
                    net.source(rule, p, q), model.source(rule, p, q));
            }
            case 2, 3, 4, 5, 6, 7, 8 -> {
                int kind = random.nextInt(30) == 0 ? random.nextInt(11) - 1 : 1 + random.nextInt(7);
                int ports = random.nextInt(30) == 0 ? 10000 - random.nextInt(2) * 10001 : random.nextInt(10000);
                int number = number(random);
                Check.due(where + "process(" + kind + ", " + ports + ", " + number + ")",
                    net.process(kind, ports, number), model.process(kind, ports, number));
            }
            case 9 -> {
                if (random.nextInt(3) == 0) {
                    Check.due(where + "clear()", net.clear(), model.clear());
                } else {
                    Check.due(where + "processes()", net.processes(), model.processes());
                }
            }
            case 10, 11, 12 -> Check.due(where + "length(" + x + ")", net.length(x), model.length(x));
            case 13, 14, 15 -> {
                int k = random.nextInt(20) == 0 ? edge(random) : random.nextInt(22);
                Check.due(where + "at(" + x + ", " + k + ")", net.at(x, k), model.at(x, k));
            }
            case 16, 17 -> Check.due(where + "total()", net.total(), model.total());
            default -> Check.due(where + "firstDifference(" + x + ", " + y + ")",
                net.firstDifference(x, y), model.firstDifference(x, y));
        }
    }

    private static int channel(Random random) {
        return random.nextInt(30) == 0 ? random.nextInt(14) - 2 : random.nextInt(10);
    }

    private static int edge(Random random) {
        return EDGES[random.nextInt(EDGES.length)];
    }

    /** Mostly small ones, so that streams meet; the others show a number that has a part where it should not. */
    private static int number(Random random) {
        return switch (random.nextInt(8)) {
            case 0, 1 -> edge(random);
            case 2, 3 -> random.nextInt(65) - 32;
            case 4 -> random.nextInt();
            default -> random.nextInt(9) - 3;
        };
    }
}
