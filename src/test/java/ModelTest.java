import java.math.BigInteger;
import java.util.ArrayList;
import java.util.List;

/** Long mixed runs of calls, each answer compared with a second, slower telling of the document. */
public final class ModelTest {
    private static final int CALLS = 512;
    private static int wrong = 0;

    /** A fixed sequence of numbers, so that every run of the tests makes the same calls. */
    private static final class Numbers {
        private long state;

        Numbers(long seed) {
            state = seed * 0x9E3779B97F4A7C15L + 1;
        }

        long next() {
            state += 0x9E3779B97F4A7C15L;
            long z = state;
            z = (z ^ (z >>> 30)) * 0xBF58476D1CE4E5B9L;
            z = (z ^ (z >>> 27)) * 0x94D049BB133111EBL;
            return z ^ (z >>> 31);
        }

        int below(int bound) {
            return (int) Long.remainderUnsigned(next(), bound);
        }
    }

    private static final class Frame {
        final int id;
        final int length;
        final long data;
        /** For each bit that is put out: 'h' up to the id's end, 'b' breakable, 'a' the answer, 'e' the end. */
        final String kinds;

        Frame(int id, int length, long data) {
            this.id = id;
            this.length = length;
            this.data = length == 0 ? 0L : data << (64 - 8 * length) >>> (64 - 8 * length);
            this.kinds = kindsOf(plain());
        }

        private static String binary(long number, int width) {
            StringBuilder text = new StringBuilder();
            for (int i = width - 1; i >= 0; i--) {
                text.append(number >>> i & 1);
            }
            return text.toString();
        }

        private String plain() {
            StringBuilder text = new StringBuilder("0");
            text.append(binary(id, 11)).append("000").append(binary(length, 4));
            for (int i = length - 1; i >= 0; i--) {
                text.append(binary(data >>> (8 * i) & 255, 8));
            }
            return text + binary(check(text.toString()), 15);
        }

        /** The rest of a division of polynomials, which is what the document's steps come to. */
        private static long check(String bits) {
            BigInteger rest = new BigInteger(bits, 2).shiftLeft(15);
            BigInteger divisor = BigInteger.valueOf(32768 + 17817);
            while (rest.bitLength() > 15) {
                rest = rest.xor(divisor.shiftLeft(rest.bitLength() - 16));
            }
            return rest.longValue();
        }

        private static String kindsOf(String plain) {
            StringBuilder out = new StringBuilder();
            StringBuilder kinds = new StringBuilder();
            for (int i = 0; i < plain.length(); i++) {
                if (out.toString().endsWith("00000")) {
                    out.append('1');
                    kinds.append(i < 12 ? 'h' : 'b');
                } else if (out.toString().endsWith("11111")) {
                    out.append('0');
                    kinds.append(i < 12 ? 'h' : 'b');
                }
                out.append(plain.charAt(i));
                kinds.append(i < 12 ? 'h' : 'b');
            }
            return kinds + "baeeeeeeee";
        }

        boolean endsInFiveEqual() {
            String plain = plain();
            // No stuffed bit can stand among the last five if these five are the last of a row of five.
            String end = plain.substring(plain.length() - 6);
            return end.equals("100000") || end.equals("011111");
        }
    }

    private static final class Node {
        boolean on = true;
        final List<Frame> waits = new ArrayList<>();
        final List<Frame> inbox = new ArrayList<>();
        int mask;
        int value;
        int sending;
        int receiving;
        int missed;
    }

    private static final class Model {
        final Node[] nodes = {new Node(), new Node(), new Node(), new Node()};
        /** What is to come on the wire: 'c' for complaint, 'p' for pause; empty if a frame or nothing is. */
        String quiet = "";
        Frame current;
        int gone;
        int now;
        int disturbedAt = -1;
        int sent;
        int brokenAlone;

        Node sender(Frame frame) {
            for (Node node : nodes) {
                if (node.waits.contains(frame)) {
                    return node;
                }
            }
            throw new IllegalStateException();
        }

        Frame find(int id) {
            for (Node node : nodes) {
                for (Frame frame : node.waits) {
                    if (frame.id == id) {
                        return frame;
                    }
                }
            }
            return null;
        }

        void tick() {
            now++;
            if (!quiet.isEmpty()) {
                quiet = quiet.substring(1);
                return;
            }
            if (current == null) {
                for (Node node : nodes) {
                    for (Frame frame : node.waits) {
                        if (node.on && (current == null || frame.id < current.id)) {
                            current = frame;
                        }
                    }
                }
                gone = 0;
            }
            if (current != null) {
                frameBit();
            }
        }

        private void frameBit() {
            char kind = current.kinds.charAt(gone++);
            Node from = sender(current);
            List<Node> others = new ArrayList<>();
            for (Node node : nodes) {
                if (node != from && node.on) {
                    others.add(node);
                }
            }
            if (kind == 'b' && disturbedAt == now || kind == 'a' && others.isEmpty()) {
                brokenAlone += others.isEmpty() ? 1 : 0;
                from.sending += 8;
                others.forEach(node -> node.receiving = Math.min(255, node.receiving + 1));
                from.on = from.sending <= 255;
                current = null;
                quiet = "ccccccccccccccppp";
            } else if (gone == current.kinds.length()) {
                from.waits.remove(current);
                from.sending = Math.max(0, from.sending - 1);
                for (Node node : others) {
                    node.receiving = Math.max(0, node.receiving - 1);
                    if (((current.id ^ node.value) & node.mask) == 0) {
                        if (node.inbox.size() == 6) {
                            node.missed++;
                        } else {
                            node.inbox.add(current);
                        }
                    }
                }
                sent++;
                current = null;
                quiet = "ppp";
            }
        }

        int wire() {
            return current != null ? 1 : quiet.isEmpty() ? 0 : quiet.charAt(0) == 'c' ? 2 : 3;
        }

        int post(int code, int length, long data) {
            if (code < 0 || code > 8191 || length < 0 || length > 8) {
                return -1;
            }
            if (find(code & 2047) != null) {
                return -4;
            }
            List<Frame> waits = nodes[code >> 11].waits;
            if (waits.size() == 4) {
                return -3;
            }
            waits.add(new Frame(code & 2047, length, data));
            return waits.size();
        }

        int cancel(int id) {
            if (id < 0 || id > 2047) {
                return -1;
            }
            Frame frame = find(id);
            if (frame == null) {
                return -2;
            }
            if (frame == current) {
                return -5;
            }
            Node node = sender(frame);
            node.waits.remove(frame);
            return List.of(nodes).indexOf(node);
        }

        int filter(int node, int mask, int value) {
            if (node < 0 || node > 3 || mask < 0 || mask > 2047 || value < 0 || value > 2047) {
                return -1;
            }
            nodes[node].mask = mask;
            nodes[node].value = value;
            return 0;
        }

        int restart(int node) {
            if (node < 0 || node > 3) {
                return -1;
            }
            if (wire() == 1 || wire() == 2) {
                return -5;
            }
            int answer = nodes[node].on ? 0 : 1;
            nodes[node].on = true;
            nodes[node].sending = 0;
            nodes[node].receiving = 0;
            return answer;
        }

        int run(int bits) {
            if (bits < 0 || bits > 2000) {
                return -1;
            }
            int before = sent;
            for (int i = 0; i < bits; i++) {
                tick();
            }
            return sent - before;
        }

        int disturb(int n) {
            if (n < 1 || n > 1000) {
                return -1;
            }
            disturbedAt = now + n;
            return 0;
        }

        int take(int node) {
            if (node < 0 || node > 3) {
                return -1;
            }
            if (nodes[node].inbox.isEmpty()) {
                return -2;
            }
            Frame frame = nodes[node].inbox.remove(0);
            return 16 * frame.id + frame.length;
        }

        Frame at(int node, int i) {
            boolean there = node >= 0 && node < 4 && i >= 0 && i < nodes[node].inbox.size();
            return there ? nodes[node].inbox.get(i) : null;
        }

        int frameAt(int node, int i) {
            if (node < 0 || node > 3) {
                return -1;
            }
            Frame frame = at(node, i);
            return frame == null ? -2 : 16 * frame.id + frame.length;
        }

        int bitsOf(int id, int length, long data) {
            boolean bad = id < 0 || id > 2047 || length < 0 || length > 8;
            return bad ? -1 : new Frame(id, length, data).kinds.length();
        }
    }

    /** One run on a new object; what is called more often depends on its kind. */
    private static final class Run {
        final String name;
        final Numbers numbers;
        final int kind;
        final WireNetwork x = new WireNetwork();
        final Model model = new Model();
        int calls = 0;

        Run(long seed) {
            name = "run " + seed;
            numbers = new Numbers(seed);
            kind = (int) (seed % 4);
        }

        void due(String what, long got, long want) {
            calls++;
            if (got != want) {
                wrong++;
                System.out.println(name + ", call " + calls + ": " + what + " answered " + got + ", due is " + want);
            }
        }

        int oneOf(int... choices) {
            return choices[numbers.below(choices.length)];
        }

        int node() {
            return numbers.below(40) == 0 ? oneOf(-1, 4, Integer.MIN_VALUE, Integer.MAX_VALUE) : numbers.below(4);
        }

        int id() {
            switch (numbers.below(30)) {
                case 0: return oneOf(-1, 2048, Integer.MIN_VALUE, Integer.MAX_VALUE);
                case 1: return oneOf(0, 2047, 31, 2016, 1984, 63);
                default: return kind == 0 ? numbers.below(2048) : 97 * numbers.below(20);
            }
        }

        int length() {
            return numbers.below(40) == 0 ? oneOf(-1, 9, Integer.MIN_VALUE, Integer.MAX_VALUE) : numbers.below(9);
        }

        long data() {
            switch (numbers.below(4)) {
                case 0: return 0L;
                case 1: return -1L;
                case 2: return numbers.next() & numbers.next() & numbers.next();
                default: return numbers.next();
            }
        }

        int bits() {
            switch (numbers.below(12)) {
                case 0: return oneOf(-1, 2001, Integer.MIN_VALUE, Integer.MAX_VALUE, 0);
                case 1: return kind == 3 ? 2000 : numbers.below(400);
                case 2: return oneOf(1, 2, 3);
                default: return numbers.below(160);
            }
        }

        int disturbance() {
            switch (numbers.below(12)) {
                case 0: return oneOf(0, -1, 1000, 1001, Integer.MIN_VALUE, Integer.MAX_VALUE);
                case 1: return 1 + numbers.below(1000);
                default: return 1 + numbers.below(40);
            }
        }

        void change() {
            int choice = numbers.below(24);
            if (choice < 6) {
                int id = id();
                int code = numbers.below(60) == 0 ? oneOf(-1, 8192, Integer.MIN_VALUE, Integer.MAX_VALUE)
                    : 2048 * numbers.below(4) + (id & 2047);
                int length = length();
                long data = data();
                due("post(" + code + ", " + length + ", " + data + ")",
                    x.post(code, length, data), model.post(code, length, data));
            } else if (choice < 8) {
                int id = id();
                due("cancel(" + id + ")", x.cancel(id), model.cancel(id));
            } else if (choice == 8) {
                int node = node();
                int mask = oneOf(0, 1, 2, 2047, 2048, -1, id());
                int value = id();
                due("filter(" + node + ", " + mask + ", " + value + ")",
                    x.filter(node, mask, value), model.filter(node, mask, value));
            } else if (choice == 9) {
                int node = node();
                due("restart(" + node + ")", x.restart(node), model.restart(node));
            } else if (choice < 13 && kind != 1) {
                int node = node();
                due("take(" + node + ")", x.take(node), model.take(node));
            } else if (choice < 16) {
                int n = disturbance();
                due("disturb(" + n + ")", x.disturb(n), model.disturb(n));
            } else {
                int bits = bits();
                due("run(" + bits + ")", x.run(bits), model.run(bits));
            }
        }

        /** Mostly breaks off the frame under way or the next one: only many of these put a node off. */
        void provoke() {
            int gone = model.current == null ? -model.quiet.length() : model.gone;
            int n = Math.max(1, 15 + numbers.below(20) - gone);
            due("disturb(" + n + ")", x.disturb(n), model.disturb(n));
            int bits = n + numbers.below(20);
            due("run(" + bits + ")", x.run(bits), model.run(bits));
        }

        void ask() {
            int node = node();
            int i = numbers.below(20) == 0 ? oneOf(-1, 6, Integer.MIN_VALUE, Integer.MAX_VALUE) : numbers.below(6);
            boolean good = node >= 0 && node < 4;
            Node that = model.nodes[good ? node : 0];
            switch (numbers.below(13)) {
                case 0: due("isOn", x.isOn(node), good ? that.on ? 1 : 0 : -1); break;
                case 1: due("sendErrors", x.sendErrors(node), good ? that.sending : -1); break;
                case 2: due("receiveErrors", x.receiveErrors(node), good ? that.receiving : -1); break;
                case 3: due("waiting", x.waiting(node), good ? that.waits.size() : -1); break;
                case 4: due("received", x.received(node), good ? that.inbox.size() : -1); break;
                case 5: due("missed", x.missed(node), good ? that.missed : -1); break;
                case 6: due("frameAt", x.frameAt(node, i), model.frameAt(node, i)); break;
                case 7:
                    Frame frame = model.at(node, i);
                    due("dataAt", x.dataAt(node, i), frame == null ? 0L : frame.data);
                    break;
                case 8: due("time", x.time(), model.now); break;
                case 9: due("wire", x.wire(), model.wire()); break;
                case 10: due("underWay", x.underWay(), model.current == null ? -2 : model.current.id); break;
                case 11: due("sent", x.sent(), model.sent); break;
                default:
                    int id = id();
                    int length = length();
                    long data = data();
                    due("bitsOf(" + id + ", " + length + ", " + data + ")",
                        x.bitsOf(id, length, data), model.bitsOf(id, length, data));
            }
        }

        void go() {
            while (calls < CALLS - 1) {
                if (kind == 2 && numbers.below(8) != 0) {
                    provoke();
                } else if (numbers.below(3) == 0) {
                    ask();
                } else {
                    change();
                }
            }
        }
    }

    /** Every id, so that all places of stuffing come up, five equal bits at the very end among them. */
    private static int allIds() {
        int edges = 0;
        for (int id = 0; id < 2048; id++) {
            for (int length = 0; length <= 8; length++) {
                long data = new Numbers(id * 9 + length).next();
                Frame frame = new Frame(id, length, data);
                edges += frame.endsInFiveEqual() ? 1 : 0;
                int got = new WireNetwork().bitsOf(id, length, data);
                if (got != frame.kinds.length()) {
                    wrong++;
                    System.out.println("bitsOf(" + id + ", " + length + ", " + data + ") answered " + got
                        + ", due is " + frame.kinds.length());
                }
            }
        }
        return edges;
    }

    public static void main(String[] args) {
        int sent = 0;
        int off = 0;
        int alone = 0;
        int missed = 0;
        int runs = 2000;
        for (long seed = 0; seed < runs; seed++) {
            Run run = new Run(seed);
            run.go();
            sent += run.model.sent;
            alone += run.model.brokenAlone;
            for (Node node : run.model.nodes) {
                off += node.on ? 0 : 1;
                missed += node.missed;
            }
        }
        int edges = allIds();
        System.out.println(runs + " runs: " + sent + " frames sent, " + missed + " missed, " + off
            + " nodes off in the end, " + alone + " frames broken off with no other node on, " + edges + " frames with five equal bits at the end, "
            + wrong + " answers not as due");
        // Runs in which these never come up would prove nothing about them.
        if (wrong != 0 || sent == 0 || off == 0 || alone == 0 || missed == 0 || edges == 0) {
            System.exit(1);
        }
    }
}
