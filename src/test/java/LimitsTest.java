/** The section "What it is": the 512th call of an object answers like any other. */
public final class LimitsTest {
    private static final String SENTENCE = "An object is used for at most 512 calls after it has been made";

    private static int calls;

    private LimitsTest() {
    }

    public static void main(String[] args) {
        Check.says(SENTENCE, LimitsTest::addingAndClearing);
        Check.says(SENTENCE, LimitsTest::fillingAndClearing);
        Check.says(SENTENCE, LimitsTest::refusing);
        Check.says(SENTENCE, LimitsTest::looking);
        Check.says(SENTENCE, LimitsTest::theLastOneAdds);
        Check.end();
    }

    private static void call(String what, int got, int want) {
        calls++;
        Check.due("call " + calls + ", " + what, got, want);
    }

    private static void addingAndClearing() {
        KahnNet net = new KahnNet(1);
        calls = 0;
        while (calls < 512) {
            call("process(FIRST, 0, 7)", net.process(KahnNet.FIRST, 0, 7), 0);
            call("clear()", net.clear(), 1);
        }
    }

    private static void fillingAndClearing() {
        KahnNet net = new KahnNet(1);
        calls = 0;
        while (calls < 502) {
            for (int c = 0; c < 8; c++) {
                call("source on " + c, net.source(16 * c + 12, calls, 1), c);
            }
            call("total()", net.total(), 96);
            call("clear()", net.clear(), 8);
        }
        call("processes()", net.processes(), 0);
        call("total()", net.total(), 0);
        Check.due("calls", calls, 512);
    }

    private static void refusing() {
        KahnNet net = new KahnNet(1);
        calls = 0;
        for (int c = 0; c < 8; c++) {
            call("source on " + c, net.source(16 * c + 12, c, 1), c);
        }
        while (calls < 510) {
            call("source", net.source(144, 0, 0), KahnNet.FULL);
            call("process", net.process(KahnNet.FIRST, 9090, 0), KahnNet.FULL);
        }
        call("at(7, 11)", net.at(7, 11), 18);
        call("processes()", net.processes(), 8);
        Check.due("calls", calls, 512);
    }

    private static void looking() {
        KahnNet net = new KahnNet(1);
        calls = 0;
        call("process(FIRST, 0, 7)", net.process(KahnNet.FIRST, 0, 7), 0);
        call("source(22, 1, 1)", net.source(22, 1, 1), 1);
        while (calls < 512) {
            call("at(0, 19)", net.at(0, 19), 7);
            call("at(1, 5)", net.at(1, 5), 6);
            call("length(0)", net.length(0), 20);
            call("total()", net.total(), 26);
            call("firstDifference(0, 1)", net.firstDifference(0, 1), 0);
            call("processes()", net.processes(), 2);
        }
        Check.due("calls", calls, 512);
    }

    /** The network is run by a late call like by an early one. */
    private static void theLastOneAdds() {
        KahnNet net = new KahnNet(1);
        calls = 0;
        call("process(COPY, 12, 0)", net.process(KahnNet.COPY, 12, 0), 0);
        while (calls < 507) {
            call("process(COPY, 12, 0)", net.process(KahnNet.COPY, 12, 0), KahnNet.TAKEN);
            call("source(13, 0, 0)", net.source(13, 0, 0), KahnNet.BAD);
        }
        call("process(FIRST, 1000, 4)", net.process(KahnNet.FIRST, 1000, 4), 1);
        call("total()", net.total(), 60);
        call("at(2, 19)", net.at(2, 19), 4);
        call("source(60, 1, 1)", net.source(60, 1, 1), 2);
        call("at(3, 11)", net.at(3, 11), 12);
        Check.due("calls", calls, 512);
    }
}
