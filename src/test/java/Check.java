import java.util.Arrays;

/** Counts and prints the answers that are not as due. */
final class Check {
    private static int wrong = 0;
    private static int asked = 0;

    private Check() {
    }

    /** Runs the test of one sentence of the document; the words are the document's, " .. " stands for a gap. */
    static void says(String words, Runnable test) {
        int askedBefore = asked;
        int wrongBefore = wrong;
        try {
            test.run();
        } catch (RuntimeException thrown) {
            // No call may throw; the other sentences are still to be tested.
            holds("no call throws, but one threw " + thrown, false);
        }
        holds("the test of this sentence asks something: " + words, asked > askedBefore);
        if (wrong > wrongBefore) {
            System.out.println("BROKEN: " + words);
        }
    }

    static void due(String what, long got, long want) {
        asked++;
        if (got != want) {
            wrong++;
            System.out.println(what + " answered " + got + ", due is " + want);
        }
    }

    static void holds(String what, boolean isTrue) {
        asked++;
        if (!isTrue) {
            wrong++;
            System.out.println("does not hold: " + what);
        }
    }

    /** The stream of channel c is just these ints, as length and at tell it. */
    static void stream(String what, KahnNet net, int c, int... want) {
        asked++;
        int[] got = new int[Math.max(0, net.length(c))];
        for (int k = 0; k < got.length; k++) {
            got[k] = net.at(c, k);
        }
        if (!Arrays.equals(got, want)) {
            wrong++;
            System.out.println(what + ": channel " + c + " has " + Arrays.toString(got)
                + ", due is " + Arrays.toString(want));
        }
    }

    static boolean anyWrong() {
        return wrong != 0;
    }

    static void end() {
        System.out.println(asked + " answers, " + wrong + " not as due");
        if (wrong != 0) {
            System.exit(1);
        }
    }
}
