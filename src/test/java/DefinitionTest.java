import java.util.ArrayList;
import java.util.Arrays;
import java.util.Collections;
import java.util.List;
import java.util.Random;
import java.util.stream.IntStream;

/**
 * The sentence on the smallest streams, word for word, on networks of many loops: all streams are empty at first,
 * and each is replaced by the first 20 ints of what its process writes, given the others, until none changes.
 */
public final class DefinitionTest {
    private static final String SENTENCE =
        "The streams of all channels are the smallest ones .. for which every channel has the first 20 ints";
    private static final int NETWORKS = 6000;

    /** SOURCE and FIRST stand more than once, because what has neither stays empty. */
    private static final int[] KINDS = {KahnNet.SOURCE, KahnNet.SOURCE, KahnNet.FIRST, KahnNet.FIRST, KahnNet.FIRST,
        KahnNet.COPY, KahnNet.COPY, KahnNet.PLUS, KahnNet.PICK, KahnNet.JOIN, KahnNet.SUMS, KahnNet.PAIRS};

    private record Part(int kind, int a, int b, int c, int d, int number, int q, int n) {
        boolean writes(int channel) {
            return channel == c || kind == KahnNet.COPY && channel == d;
        }
    }

    private DefinitionTest() {
    }

    public static void main(String[] args) {
        Check.says(SENTENCE, DefinitionTest::manyNetworks);
        Check.end();
    }

    private static void manyNetworks() {
        for (int seed = 0; seed < NETWORKS && !Check.anyWrong(); seed++) {
            List<Part> parts = draw(new Random(seed));
            KahnNet net = new KahnNet(seed % 8);
            parts.forEach(part -> addTo(net, part));
            int[][] due = smallest(parts);
            for (int c = 0; c < due.length; c++) {
                Check.stream("network " + seed + ", " + parts, net, c, due[c]);
            }
        }
    }

    private static void addTo(KahnNet net, Part part) {
        if (part.kind == KahnNet.SOURCE) {
            Nets.give(net, part.c, part.n, part.number, part.q);
        } else {
            int ports = 1000 * part.a + 100 * part.b + 10 * part.c + part.d;
            Nets.add(net, part.kind, ports, part.number);
        }
    }

    /** Up to eight processes that never ask for the same channel, so that all are taken in. */
    private static List<Part> draw(Random random) {
        List<Integer> toRead = shuffled(random);
        List<Integer> toWrite = shuffled(random);
        List<Part> parts = new ArrayList<>();
        for (int tries = 0; tries < 30 && parts.size() < 8; tries++) {
            int kind = KINDS[random.nextInt(KINDS.length)];
            int reads = kind == KahnNet.SOURCE ? 0 : kind == KahnNet.PLUS || kind == KahnNet.JOIN ? 2 : 1;
            int writes = kind == KahnNet.COPY ? 2 : 1;
            if (reads <= toRead.size() && writes <= toWrite.size()) {
                int a = reads > 0 ? toRead.remove(0) : 0;
                int b = reads > 1 ? toRead.remove(0) : random.nextInt(10);
                int c = toWrite.remove(0);
                int d = writes > 1 ? toWrite.remove(0) : random.nextInt(10);
                int number = random.nextInt(20) == 0 ? random.nextInt() : random.nextInt(6) - 1;
                int q = random.nextInt(20) == 0 ? random.nextInt() : random.nextInt(6) - 2;
                parts.add(new Part(kind, a, b, c, d, number, q, random.nextInt(13)));
            }
        }
        return parts;
    }

    private static List<Integer> shuffled(Random random) {
        List<Integer> channels = new ArrayList<>(IntStream.range(0, 10).boxed().toList());
        Collections.shuffle(channels, random);
        return channels;
    }

    private static int[][] smallest(List<Part> parts) {
        int[][] streams = new int[10][0];
        while (true) {
            int[][] next = new int[10][0];
            for (Part part : parts) {
                int[] written = Nets.cut(written(part, streams));
                for (int c = 0; c < 10; c++) {
                    if (part.writes(c)) {
                        next[c] = written;
                    }
                }
            }
            if (Arrays.deepEquals(next, streams)) {
                return streams;
            }
            streams = next;
        }
    }

    private static int[] written(Part part, int[][] streams) {
        int[] a = streams[part.a];
        int[] b = streams[part.b];
        return switch (part.kind) {
            case KahnNet.SOURCE -> Nets.row(part.n, part.number, part.q);
            case KahnNet.COPY -> a;
            case KahnNet.PLUS -> IntStream.range(0, Math.min(a.length, b.length)).map(k -> a[k] + b[k]).toArray();
            case KahnNet.FIRST -> IntStream.concat(IntStream.of(part.number), Arrays.stream(a)).toArray();
            case KahnNet.PICK -> Arrays.stream(a).filter(x -> (x & part.number) == 0).toArray();
            case KahnNet.JOIN -> joined(a, b);
            case KahnNet.SUMS -> IntStream.range(0, a.length).map(k -> Arrays.stream(a, 0, k + 1).sum()).toArray();
            default -> IntStream.range(0, a.length / 2).map(k -> a[2 * k] - a[2 * k + 1]).toArray();
        };
    }

    /** The next one is taken as long as both have one; of equal ones that of a. */
    private static int[] joined(int[] a, int[] b) {
        List<Integer> ints = new ArrayList<>();
        int i = 0;
        int j = 0;
        while (i < a.length && j < b.length) {
            ints.add(b[j] < a[i] ? b[j++] : a[i++]);
        }
        return ints.stream().mapToInt(Integer::intValue).toArray();
    }
}
