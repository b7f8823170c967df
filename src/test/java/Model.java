import java.util.ArrayList;
import java.util.Comparator;
import java.util.List;

/**
 * The document once more, in the plainest way and without any regard to cost: expressions are
 * objects, queues are sorted anew for each element, and copies are made of everything.
 */
final class Model {
    /** The value of an expression; the variables are in the order of "pldfwatvnr". */
    interface Formula {
        long of(long[] variables);
    }

    record Node(int parent, Formula rank, Formula state, int rate, int burst, int tie) { }

    record Packet(int number, int flow, int length, int priority, long arrival, long deadline) { }

    record Element(int item, long rank, int group, int length, int entered) { }

    record Held(int node, Packet packet, long release, int began) { }

    /** All that a checkpoint keeps. */
    static final class World {
        List<Node> nodes;
        long time;
        int rate;
        int counter;
        int[] nodeWeight;
        long[] virtual;
        long[] mark;
        long[][] state;
        List<List<Element>> queues = new ArrayList<>();
        List<Held> held = new ArrayList<>();
        List<Packet> packets = new ArrayList<>();
        long[] departure = new long[500];
        int[] flowWeight = new int[16];
        int[] leaf = new int[16];

        World copy() {
            World w = new World();
            w.nodes = nodes;
            w.time = time;
            w.rate = rate;
            w.counter = counter;
            w.nodeWeight = nodeWeight.clone();
            w.virtual = virtual.clone();
            w.mark = mark.clone();
            w.state = new long[state.length][];
            for (int i = 0; i < state.length; i++) {
                w.state[i] = state[i].clone();
            }
            for (List<Element> queue : queues) {
                w.queues.add(new ArrayList<>(queue));
            }
            w.held = new ArrayList<>(held);
            w.packets = new ArrayList<>(packets);
            w.departure = departure.clone();
            w.flowWeight = flowWeight.clone();
            w.leaf = leaf.clone();
            return w;
        }

        boolean isLeaf(int node) {
            return nodes.stream().noneMatch(n -> n.parent == node);
        }

        long[] variables(int node, int group, Packet p, long t) {
            int weight = isLeaf(node) ? flowWeight[group] : nodeWeight[group];
            return new long[] {p.priority, p.length, p.deadline, group, weight, state[node][group], t, virtual[node],
                queues.get(node).size(), 0};
        }

        void enter(int node, int item, Packet p, long t) {
            int group = isLeaf(node) ? p.flow : item;
            Node n = nodes.get(node);
            long[] variables = variables(node, group, p, t);
            long rank = n.rank.of(variables);
            variables[9] = rank;
            if (n.state != null) {
                state[node][group] = n.state.of(variables);
            }
            queues.get(node).add(new Element(item, rank, group, p.length, counter++));
            queues.get(node).sort(order(n.tie));
            if (node == 0) {
                return;
            }
            long release = t;
            if (n.rate > 0) {
                long q = n.burst * 1000L / n.rate;
                long z = p.length * 1000L / n.rate + (p.length * 1000L % n.rate == 0 ? 0 : 1);
                release = Math.max(t, mark[node] - q);
                mark[node] = Math.max(mark[node], t) + z;
            }
            if (release == t) {
                enter(n.parent, node, p, t);
            } else {
                held.add(new Held(node, p, release, counter++));
            }
        }

        int pass(long until) {
            int count = 0;
            while (true) {
                Held first = held.stream().min(Comparator.comparingLong(Held::release).thenComparingInt(Held::began)).orElse(null);
                if (first == null || first.release > until) {
                    time = until;
                    return count;
                }
                held.remove(first);
                enter(nodes.get(first.node).parent, first.node, first.packet, first.release);
                count++;
            }
        }

        int leave() {
            if (queues.get(0).isEmpty()) {
                return -1;
            }
            int node = 0;
            while (true) {
                Element e = queues.get(node).remove(0);
                virtual[node] = e.rank;
                if (isLeaf(node)) {
                    return e.item;
                }
                node = e.item;
            }
        }

        int send(boolean atOnce) {
            int packet = leave();
            if (packet >= 0) {
                long bytes = packets.get(packet).length * 1000L;
                long end = atOnce ? time : time + (bytes + rate - 1) / rate;
                departure[packet] = end;
                pass(end);
            }
            return packet;
        }
    }

    static Comparator<Element> order(int tie) {
        Comparator<Element> byRank = Comparator.comparingLong(Element::rank);
        Comparator<Element> byEntry = Comparator.comparingInt(Element::entered);
        return switch (tie) {
            case 1 -> byRank.thenComparing(byEntry.reversed());
            case 2 -> byRank.thenComparingInt(Element::length).thenComparing(byEntry);
            case 3 -> byRank.thenComparingInt(Element::group).thenComparing(byEntry);
            default -> byRank.thenComparing(byEntry);
        };
    }

    static final String[] TEMPLATES = {"0", "p", "d", "M(v,a):r+l/w", "M(v,a):r+l*100/w;0<p;0<d;0<M(v,a):r+l*100/w&",
        "t;0<p@100,500;0<0@50,0%;0<d^"};

    private World w = new World();
    private String text = "";
    private List<Integer> chain = List.of();
    private final List<World> kept = new ArrayList<>();

    Model(int linkRate) {
        w.rate = Math.min(9999, Math.max(1, linkRate));
        java.util.Arrays.fill(w.flowWeight, 1);
        start(new ModelReader(TEMPLATES[0]).tree());
    }

    private void start(List<Node> nodes) {
        World fresh = new World();
        fresh.nodes = nodes;
        fresh.rate = w.rate;
        fresh.flowWeight = w.flowWeight;
        fresh.nodeWeight = new int[nodes.size()];
        java.util.Arrays.fill(fresh.nodeWeight, 1);
        fresh.virtual = new long[nodes.size()];
        fresh.mark = new long[nodes.size()];
        fresh.state = new long[nodes.size()][16];
        for (int i = 0; i < nodes.size(); i++) {
            fresh.queues.add(new ArrayList<>());
        }
        int leaf = 0;
        while (!fresh.isLeaf(leaf)) {
            leaf++;
        }
        java.util.Arrays.fill(fresh.leaf, leaf);
        w = fresh;
    }

    private static void index(boolean right) {
        if (!right) {
            throw new IndexOutOfBoundsException();
        }
    }

    private static void argument(boolean right) {
        if (!right) {
            throw new IllegalArgumentException();
        }
    }

    private static void state(boolean right) {
        if (!right) {
            throw new IllegalStateException();
        }
    }

    private void node(int node) {
        index(node >= 0 && node < w.nodes.size());
    }

    private static void flow(int flow) {
        index(flow >= 0 && flow < 16);
    }

    private Packet packet(int packet) {
        index(packet >= 0 && packet < w.packets.size());
        return w.packets.get(packet);
    }

    int type(int c) {
        argument(c >= 32 && c <= 126);
        state(text.length() < 120);
        text += (char) c;
        return text.length();
    }

    int clearText() {
        int length = text.length();
        text = "";
        return length;
    }

    int loadTree() {
        try {
            start(new ModelReader(text).tree());
            text = "";
            chain = List.of();
            return w.nodes.size();
        } catch (ModelReader.Wrong e) {
            chain = e.chain;
            return -1 - chain.get(chain.size() - 1);
        }
    }

    int loadTemplate(int template) {
        argument(template >= 0 && template <= 5);
        start(new ModelReader(TEMPLATES[template]).tree());
        return w.nodes.size();
    }

    int errorPosition(int i) {
        index(i >= 0);
        return i < chain.size() ? chain.get(i) : -1;
    }

    int nodes() {
        return w.nodes.size();
    }

    int parentOf(int node) {
        node(node);
        return w.nodes.get(node).parent;
    }

    int children(int node) {
        node(node);
        return (int) w.nodes.stream().filter(n -> n.parent == node).count();
    }

    int tieRule(int node) {
        node(node);
        return w.nodes.get(node).tie;
    }

    int setFlowWeight(int flow, int weight) {
        flow(flow);
        argument(weight >= 1 && weight <= 100);
        int before = w.flowWeight[flow];
        w.flowWeight[flow] = weight;
        return before;
    }

    int setNodeWeight(int node, int weight) {
        node(node);
        argument(weight >= 1 && weight <= 100);
        int before = w.nodeWeight[node];
        w.nodeWeight[node] = weight;
        return before;
    }

    int assign(int flow, int leaf) {
        flow(flow);
        node(leaf);
        argument(w.isLeaf(leaf));
        int before = w.leaf[flow];
        w.leaf[flow] = leaf;
        return before;
    }

    int leafOf(int flow) {
        flow(flow);
        return w.leaf[flow];
    }

    int setLinkRate(int rate) {
        argument(rate >= 1 && rate <= 9999);
        int before = w.rate;
        w.rate = rate;
        return before;
    }

    int enqueue(int flow, int length, int priority, int slack) {
        flow(flow);
        argument(length >= 1 && length <= 1500 && priority >= 0 && priority <= 9 && slack >= 0 && slack <= 1000000);
        state(waiting() < 64 && w.packets.size() < 500);
        int number = w.packets.size();
        Packet p = new Packet(number, flow, length, priority, w.time, w.time + slack);
        w.packets.add(p);
        w.departure[number] = -1;
        w.enter(w.leaf[flow], number, p, w.time);
        return number;
    }

    int dequeue() {
        return w.send(true);
    }

    int transmit() {
        return w.send(false);
    }

    int advance(int units) {
        argument(units >= 0);
        return w.pass(w.time + units);
    }

    long time() {
        return w.time;
    }

    long nextRelease() {
        return w.held.stream().mapToLong(Held::release).min().orElse(-1);
    }

    int shaped() {
        return w.held.size();
    }

    int waiting() {
        int count = 0;
        for (int i = 0; i < w.nodes.size(); i++) {
            count += w.isLeaf(i) ? w.queues.get(i).size() : 0;
        }
        return count;
    }

    int queueLength(int node) {
        node(node);
        return w.queues.get(node).size();
    }

    private Element element(int node, int i) {
        node(node);
        index(i >= 0 && i < w.queues.get(node).size());
        return w.queues.get(node).get(i);
    }

    int queueItem(int node, int i) {
        return element(node, i).item;
    }

    long queueRank(int node, int i) {
        return element(node, i).rank;
    }

    long virtualTime(int node) {
        node(node);
        return w.virtual[node];
    }

    long state(int node, int key) {
        node(node);
        argument(w.isLeaf(node) ? key >= 0 && key < 16 : key >= 0 && key < nodes() && w.nodes.get(key).parent == node);
        return w.state[node][key];
    }

    long rankIf(int flow, int length, int priority, int slack) {
        flow(flow);
        argument(length >= 1 && length <= 1500 && priority >= 0 && priority <= 9 && slack >= 0 && slack <= 1000000);
        Packet p = new Packet(-1, flow, length, priority, w.time, w.time + slack);
        int leaf = w.leaf[flow];
        return w.nodes.get(leaf).rank.of(w.variables(leaf, flow, p, w.time));
    }

    int peek(int k) {
        index(k >= 0);
        if (k >= w.queues.get(0).size()) {
            return -1;
        }
        World later = w.copy();
        for (int i = 0; i < k; i++) {
            later.leave();
        }
        return later.leave();
    }

    long departureIf(int packet) {
        argument(packet >= 0 && packet < w.packets.size() && w.departure[packet] == -1);
        World later = w.copy();
        while (later.departure[packet] == -1) {
            if (later.send(false) == -1) {
                later.pass(later.held.stream().mapToLong(Held::release).min().orElseThrow());
            }
        }
        return later.departure[packet];
    }

    int flowOf(int packet) {
        return packet(packet).flow;
    }

    long deadlineOf(int packet) {
        return packet(packet).deadline;
    }

    long departureOf(int packet) {
        packet(packet);
        return w.departure[packet];
    }

    /** The packets of a flow that have left; of all flows, if the flow is -1. */
    private List<Packet> left(int flow) {
        return w.packets.stream().filter(p -> (flow == -1 || p.flow == flow) && w.departure[p.number] >= 0).toList();
    }

    private long delay(Packet p) {
        return w.departure[p.number] - p.arrival;
    }

    int sent(int flow) {
        flow(flow);
        return left(flow).size();
    }

    int sentBytes(int flow) {
        flow(flow);
        return left(flow).stream().mapToInt(Packet::length).sum();
    }

    long totalDelay(int flow) {
        flow(flow);
        return left(flow).stream().mapToLong(this::delay).sum();
    }

    long greatestDelay(int flow) {
        flow(flow);
        return left(flow).stream().mapToLong(this::delay).max().orElse(0);
    }

    int missed(int flow) {
        flow(flow);
        return (int) left(flow).stream().filter(p -> w.departure[p.number] > p.deadline).count();
    }

    int share(int flow) {
        flow(flow);
        int all = left(-1).stream().mapToInt(Packet::length).sum();
        return all == 0 ? 0 : 1000 * sentBytes(flow) / all;
    }

    int checkpoint() {
        state(kept.size() < 3);
        kept.add(w.copy());
        return kept.size();
    }

    int rollback() {
        state(!kept.isEmpty());
        w = kept.remove(kept.size() - 1);
        return kept.size();
    }

    int commit() {
        state(!kept.isEmpty());
        kept.remove(kept.size() - 1);
        return kept.size();
    }

    long fingerprint() {
        List<Long> numbers = new ArrayList<>(List.of(w.time, (long) w.held.size()));
        for (int node = 0; node < nodes(); node++) {
            numbers.add(w.virtual[node]);
            numbers.add((long) w.queues.get(node).size());
            for (Element e : w.queues.get(node)) {
                numbers.add((long) e.item);
                numbers.add(e.rank);
            }
        }
        for (int flow = 0; flow < 16; flow++) {
            numbers.addAll(List.of((long) sent(flow), (long) sentBytes(flow), totalDelay(flow), (long) missed(flow)));
        }
        long print = 11;
        for (long number : numbers) {
            print = 31 * print + number;
        }
        return print;
    }
}
