import java.util.Arrays;

/** Promise 1: a new object. */
public final class NewObjectTest {
    private static final int[] BUFFERS = {Nets.LEAST, -1, 0, 1, 2, 3, 4, 5, 6, 7, 8, 20, 21, Nets.GREATEST};

    private NewObjectTest() {
    }

    public static void main(String[] args) {
        Check.says("No processes.", NewObjectTest::nothingIsThere);
        Check.says("buffer, clamped into 1..6 .. it shows in no answer", NewObjectTest::oneSideRunsAhead);
        Check.says("buffer, clamped into 1..6 .. it shows in no answer", NewObjectTest::oneSideWaitsForEver);
        Check.says("buffer, clamped into 1..6 .. it shows in no answer", NewObjectTest::joinHoldsOneSideBack);
        Check.says("buffer, clamped into 1..6 .. it shows in no answer", NewObjectTest::loopHoldsManyInts);
        Check.end();
    }

    private static void nothingIsThere() {
        for (int buffer : BUFFERS) {
            KahnNet net = new KahnNet(buffer);
            Check.due("processes()", net.processes(), 0);
            Check.due("total()", net.total(), 0);
            for (int c = 0; c <= 9; c++) {
                Check.due("length(" + c + ")", net.length(c), 0);
                Check.due("at(" + c + ", 0)", net.at(c, 0), 0);
                Check.due("firstDifference(" + c + ", 9)", net.firstDifference(c, 9), -1);
            }
            Check.due("clear()", net.clear(), 0);
            for (int c = 0; c < 8; c++) {
                Check.due("there is room for source " + c, net.source(16 * c, 0, 0), c);
            }
        }
    }

    /** A COPY feeds both sides of a PLUS, and the last of twelve ints is the first that one side lets through. */
    private static void oneSideRunsAhead() {
        for (int buffer : BUFFERS) {
            KahnNet net = new KahnNet(buffer);
            Nets.give(net, 0, 12, -11, 1);
            Nets.add(net, KahnNet.COPY, 12, 0);
            Nets.add(net, KahnNet.PICK, 1030, Nets.LEAST);
            Nets.add(net, KahnNet.PLUS, 3240, 0);
            Check.stream("PICK with buffer " + buffer, net, 3, 0);
            Check.stream("the side that waits with buffer " + buffer, net, 2, Nets.row(12, -11, 1));
            Check.stream("PLUS with buffer " + buffer, net, 4, -11);
            Check.due("total() with buffer " + buffer, net.total(), 38);
        }
    }

    private static void oneSideWaitsForEver() {
        for (int buffer : BUFFERS) {
            KahnNet net = new KahnNet(buffer);
            Nets.giveTwenty(net, 5, 2, 0, 1);
            Nets.add(net, KahnNet.COPY, 2034, 0);
            Nets.add(net, KahnNet.PLUS, 3950, 0);
            Nets.add(net, KahnNet.JOIN, 8460, 0);
            for (int c = 0; c <= 4; c++) {
                Check.stream("with buffer " + buffer, net, c, Nets.twenty(5));
            }
            Check.stream("PLUS with buffer " + buffer, net, 5);
            Check.stream("JOIN with buffer " + buffer, net, 6);
        }
    }

    private static void joinHoldsOneSideBack() {
        for (int buffer : BUFFERS) {
            KahnNet net = new KahnNet(buffer);
            Nets.give(net, 0, 12, 1, 1);
            Nets.add(net, KahnNet.COPY, 12, 0);
            Nets.add(net, KahnNet.SUMS, 2030, 0);
            Nets.add(net, KahnNet.JOIN, 3140, 0);
            // 1 3 6 10 15 .. and 1 2 3 .. 12, which end with the 12.
            Check.stream("JOIN with buffer " + buffer, net, 4, 1, 1, 2, 3, 3, 4, 5, 6, 6, 7, 8, 9, 10, 10, 11, 12);
            Check.due("length(3) with buffer " + buffer, net.length(3), 12);
        }
    }

    private static void loopHoldsManyInts() {
        for (int buffer : BUFFERS) {
            KahnNet net = new KahnNet(buffer);
            for (int c = 0; c < 7; c++) {
                Nets.add(net, KahnNet.FIRST, 1000 * c + 10 * (c + 1), c);
            }
            Nets.add(net, KahnNet.PICK, 7000, 0);
            int[] due = new int[20];
            Arrays.setAll(due, k -> 6 - k % 7);
            Check.stream("seven ints go round with buffer " + buffer, net, 7, due);
            Check.stream("seven ints go round with buffer " + buffer, net, 0, due);
            Check.due("total() with buffer " + buffer, net.total(), 160);
        }
    }
}
