/** Promise 7: processes. */
public final class ProcessesTest {
    private static final String SENTENCE = "The number of processes.";

    private ProcessesTest() {
    }

    public static void main(String[] args) {
        Check.says(SENTENCE, ProcessesTest::fromNoneToEight);
        Check.says(SENTENCE, ProcessesTest::refusedOnesDoNotCount);
        Check.end();
    }

    private static void fromNoneToEight() {
        KahnNet net = new KahnNet(1);
        Check.due("processes() of a new object", net.processes(), 0);
        for (int i = 0; i < 8; i++) {
            if (i % 2 == 0) {
                net.source(16 * i, 0, 0);
            } else {
                net.process(KahnNet.FIRST, 1010 * i, 0);
            }
            Check.due("processes()", net.processes(), i + 1);
        }
        net.clear();
        Check.due("processes() after clear", net.processes(), 0);
    }

    private static void refusedOnesDoNotCount() {
        KahnNet net = new KahnNet(1);
        net.source(-1, 0, 0);
        net.source(13, 0, 0);
        net.process(0, 0, 0);
        net.process(KahnNet.FIRST, 10000, 0);
        Check.due("processes() after BAD", net.processes(), 0);
        Nets.give(net, 0, 1, 0, 0);
        net.source(1, 0, 0);
        net.process(KahnNet.FIRST, 1000, 0);
        Check.due("processes() after TAKEN", net.processes(), 1);
        net = Nets.ofSources(8);
        net.source(144, 0, 0);
        net.process(KahnNet.FIRST, 9090, 0);
        Check.due("processes() after FULL", net.processes(), 8);
    }
}
