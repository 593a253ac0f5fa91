import java.util.ArrayDeque;
import java.util.ArrayList;
import java.util.Arrays;
import java.util.Deque;
import java.util.List;

/**
 * What KahnNet should answer, found in another way: each process takes one int at a time out of channels
 * that hold a few ints, waits when one is empty or full, and full channels grow when no process can go on.
 */
final class NetModel {
    private final int buffer;
    private final List<Node> nodes = new ArrayList<>();

    /** A process as it was added: ports that it does not have are absent from reads and writes. */
    private record Node(int kind, List<Integer> reads, List<Integer> writes, int number, int q, int n) {
    }

    /** A channel while the network runs: all that was written to it, and how much of that was read. */
    private static final class Pipe {
        final List<Integer> written = new ArrayList<>();
        boolean hasReader;
        int taken;
        int room;

        boolean isFull() {
            return hasReader && written.size() < 20 && written.size() - taken >= room;
        }

        boolean isEmpty() {
            return taken == written.size();
        }

        void write(int x) {
            if (written.size() < 20) {
                written.add(x);
            }
        }
    }

    /** A process while the network runs. */
    private static final class Worker {
        final Node node;
        final Pipe[] pipes;
        final List<Deque<Integer>> waiting = new ArrayList<>();
        final Integer[] held = new Integer[2];
        int sum;

        Worker(Node node, Pipe[] pipes) {
            this.node = node;
            this.pipes = pipes;
            for (int i = 0; i < node.writes.size(); i++) {
                waiting.add(new ArrayDeque<>());
            }
            if (node.kind == KahnNet.SOURCE) {
                int x = node.number;
                for (int i = 0; i < node.n; i++, x += node.q) {
                    send(x);
                }
            }
            if (node.kind == KahnNet.FIRST) {
                send(node.number);
            }
        }

        void send(int x) {
            waiting.forEach(queue -> queue.add(x));
        }

        boolean isWaiting() {
            return waiting.stream().anyMatch(queue -> !queue.isEmpty());
        }

        /** Does one thing if it can: writes an int that waits, else takes one in, else works on what it holds. */
        boolean goOn() {
            for (int i = 0; i < waiting.size(); i++) {
                Pipe to = pipes[node.writes.get(i)];
                if (!waiting.get(i).isEmpty() && !to.isFull()) {
                    to.write(waiting.get(i).remove());
                    return true;
                }
            }
            if (isWaiting()) {
                return false;
            }
            int wanted = node.kind == KahnNet.PAIRS ? 2 : node.reads.size();
            for (int i = 0; i < wanted; i++) {
                if (held[i] == null) {
                    Pipe from = pipes[node.reads.get(node.kind == KahnNet.PAIRS ? 0 : i)];
                    if (from.isEmpty()) {
                        return false;
                    }
                    held[i] = from.written.get(from.taken++);
                    return true;
                }
            }
            return wanted > 0 && work();
        }

        boolean work() {
            switch (node.kind) {
                case KahnNet.COPY, KahnNet.FIRST -> send(held[0]);
                case KahnNet.PLUS -> send(held[0] + held[1]);
                case KahnNet.PAIRS -> send(held[0] - held[1]);
                case KahnNet.SUMS -> send(sum += held[0]);
                case KahnNet.PICK -> {
                    if ((held[0] & node.number) == 0) {
                        send(held[0]);
                    }
                }
                default -> {
                    int least = held[1] < held[0] ? 1 : 0;
                    send(held[least]);
                    held[least] = null;
                    return true;
                }
            }
            Arrays.fill(held, null);
            return true;
        }
    }

    NetModel(int buffer) {
        this.buffer = Math.max(1, Math.min(6, buffer));
    }

    int source(int rule, int p, int q) {
        if (nodes.size() == 8) {
            return -2;
        }
        if (rule < 0 || rule >> 4 > 9 || (rule & 15) > 12) {
            return -1;
        }
        return add(new Node(KahnNet.SOURCE, List.of(), List.of(rule >> 4), p, q, rule & 15));
    }

    int process(int kind, int ports, int number) {
        if (nodes.size() == 8) {
            return -2;
        }
        if (kind < 1 || kind > 7 || ports < 0 || ports > 9999) {
            return -1;
        }
        String digits = String.format("%04d", ports);
        int a = digits.charAt(0) - '0';
        int b = digits.charAt(1) - '0';
        int c = digits.charAt(2) - '0';
        int d = digits.charAt(3) - '0';
        List<Integer> reads = kind == KahnNet.PLUS || kind == KahnNet.JOIN ? List.of(a, b) : List.of(a);
        List<Integer> writes = kind == KahnNet.COPY ? List.of(c, d) : List.of(c);
        return add(new Node(kind, reads, writes, number, 0, 0));
    }

    private int add(Node node) {
        List<Integer> reads = new ArrayList<>(node.reads);
        List<Integer> writes = new ArrayList<>(node.writes);
        for (Node other : nodes) {
            reads.addAll(other.reads);
            writes.addAll(other.writes);
        }
        if (reads.stream().distinct().count() < reads.size() || writes.stream().distinct().count() < writes.size()) {
            return -3;
        }
        nodes.add(node);
        return nodes.size() - 1;
    }

    int clear() {
        int many = nodes.size();
        nodes.clear();
        return many;
    }

    int processes() {
        return nodes.size();
    }

    int[] stream(int c) {
        return runs()[c].written.stream().mapToInt(Integer::intValue).toArray();
    }

    int length(int c) {
        return c < 0 || c > 9 ? -1 : stream(c).length;
    }

    int at(int c, int k) {
        return k < 0 || k >= length(c) ? 0 : stream(c)[k];
    }

    int total() {
        return Arrays.stream(runs()).mapToInt(pipe -> pipe.written.size()).sum();
    }

    int firstDifference(int c, int d) {
        return c < 0 || c > 9 || d < 0 || d > 9 ? -2 : Arrays.mismatch(stream(c), stream(d));
    }

    /** Runs the network from its start until nothing moves. */
    private Pipe[] runs() {
        Pipe[] pipes = new Pipe[10];
        for (int c = 0; c < pipes.length; c++) {
            pipes[c] = new Pipe();
            pipes[c].room = buffer;
        }
        List<Worker> workers = new ArrayList<>();
        for (Node node : nodes) {
            node.reads.forEach(c -> pipes[c].hasReader = true);
            workers.add(new Worker(node, pipes));
        }
        boolean moved = true;
        while (moved) {
            moved = false;
            for (Worker worker : workers) {
                moved |= worker.goOn();
            }
            if (!moved && workers.stream().anyMatch(Worker::isWaiting)) {
                Arrays.stream(pipes).filter(Pipe::isFull).forEach(pipe -> pipe.room++);
                moved = true;
            }
        }
        return pipes;
    }
}
