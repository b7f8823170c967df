/**
 * A programmable packet scheduler: push-in first-out queues in a tree.
 *
 * Everything that a call needs is made by the constructor and used again, so that no call makes
 * objects, however many calls there are.
 */
public final class SchedulerTree {
    private static final int MAX_NODES = 12;
    private static final int FLOWS = 16;
    private static final int MAX_WAITING = 64;
    private static final int MAX_PACKETS = 500;
    private static final int MAX_TEXT = 120;
    private static final int MAX_CHECKPOINTS = 3;
    private static final int MAX_WEIGHT = 100;
    private static final int MAX_RATE = 9999;
    private static final int MAX_LENGTH = 1500;
    private static final int MAX_PRIORITY = 9;
    private static final int MAX_SLACK = 1000000;
    private static final int FIRST_SIGN = 32;
    private static final int LAST_SIGN = 126;
    private static final int NUMBER_DIGITS = 6;
    private static final int SHAPER_DIGITS = 4;
    private static final int PARENT_DIGITS = 2;

    // Each release brings an element at least one level up, and there are no more elements than packets.
    private static final int MAX_RELEASES = MAX_WAITING * MAX_NODES;

    private static final int TIE_LAST = 1;
    private static final int TIE_SHORT = 2;
    private static final int TIE_CLASS = 3;
    private static final String TIE_SIGNS = "^%&";

    private static final String VARIABLES = "pldfwatvnr";
    private static final int VARIABLE_COUNT = 10;
    private static final int RANK = 9;

    // No text holds this sign, so it can stand for the end of the text.
    private static final char END = 0;
    private static final char NEGATE = '~';
    private static final char SECOND_OF_GREATER = 'G';
    private static final char SECOND_OF_SMALLER = 'S';

    private static final int OPERAND_DUE = 0;
    private static final int OPERATOR_DUE = 1;
    private static final int ENDED = 2;
    private static final int WRONG = 3;

    private final char[] text = new char[MAX_TEXT];
    private int textLength;
    private final int[] errors = {-1, -1, -1};
    private final Reader reader = new Reader();
    private final World now;
    private final World ahead;
    private final World[] kept = new World[MAX_CHECKPOINTS];
    private int keptCount;

    public SchedulerTree(int linkRate) {
        Calculator calculator = new Calculator();
        now = new World(calculator);
        ahead = new World(calculator);
        for (int i = 0; i < kept.length; i++) {
            kept[i] = new World(calculator);
        }
        now.linkRate = linkRate < 1 ? 1 : linkRate > MAX_RATE ? MAX_RATE : linkRate;
        plant(0);
    }

    // ---- the tree

    public int type(int c) throws IllegalArgumentException, IllegalStateException {
        if (c < FIRST_SIGN || c > LAST_SIGN) {
            throw new IllegalArgumentException("no such character");
        }
        if (textLength < 0 || textLength >= text.length) {
            throw new IllegalStateException("the text is full");
        }
        text[textLength] = (char) c;
        textLength++;
        return textLength;
    }

    public int clearText() {
        int before = textLength;
        textLength = 0;
        return before;
    }

    public int loadTree() {
        reader.takeText(text, textLength);
        boolean right = reader.readTree();
        for (int i = 0; i < errors.length; i++) {
            errors[i] = right ? -1 : reader.errorAt(i);
        }
        if (!right) {
            return -1 - reader.lastError();
        }
        textLength = 0;
        now.startWith(reader.plan);
        return now.plan.nodeCount;
    }

    public int loadTemplate(int template) throws IllegalArgumentException {
        if (template < 0 || template > 5) {
            throw new IllegalArgumentException("no such template");
        }
        plant(template);
        return now.plan.nodeCount;
    }

    public int errorPosition(int i) throws IndexOutOfBoundsException {
        if (i < 0) {
            throw new IndexOutOfBoundsException("no such error");
        }
        return i < errors.length ? errors[i] : -1;
    }

    public int nodes() {
        return now.plan.nodeCount;
    }

    public int parentOf(int node) throws IndexOutOfBoundsException {
        needNode(node);
        return now.plan.parent[node];
    }

    public int children(int node) throws IndexOutOfBoundsException {
        needNode(node);
        return now.plan.childCount[node];
    }

    public int tieRule(int node) throws IndexOutOfBoundsException {
        needNode(node);
        return now.plan.tie[node];
    }

    // ---- flows, weights

    public int setFlowWeight(int flow, int weight) throws IndexOutOfBoundsException, IllegalArgumentException {
        needFlow(flow);
        needWeight(weight);
        int before = now.flows.weight[flow];
        now.flows.weight[flow] = weight;
        return before;
    }

    public int setNodeWeight(int node, int weight) throws IndexOutOfBoundsException, IllegalArgumentException {
        needNode(node);
        needWeight(weight);
        int before = now.nodes[node].weight;
        now.nodes[node].weight = weight;
        return before;
    }

    public int assign(int flow, int leaf) throws IndexOutOfBoundsException, IllegalArgumentException {
        needFlow(flow);
        needNode(leaf);
        if (!now.plan.isLeaf(leaf)) {
            throw new IllegalArgumentException("the node is not a leaf");
        }
        int before = now.flows.leaf[flow];
        now.flows.leaf[flow] = leaf;
        return before;
    }

    public int leafOf(int flow) throws IndexOutOfBoundsException {
        needFlow(flow);
        return now.flows.leaf[flow];
    }

    public int setLinkRate(int rate) throws IllegalArgumentException {
        if (rate < 1 || rate > MAX_RATE) {
            throw new IllegalArgumentException("no such rate");
        }
        int before = now.linkRate;
        now.linkRate = rate;
        return before;
    }

    // ---- packets and time

    public int enqueue(int flow, int length, int priority, int slack)
            throws IndexOutOfBoundsException, IllegalArgumentException, IllegalStateException {
        needFlow(flow);
        needPacketValues(length, priority, slack);
        if (now.countWaiting() >= MAX_WAITING) {
            throw new IllegalStateException("too many packets wait");
        }
        if (now.packets.arrived >= MAX_PACKETS) {
            throw new IllegalStateException("too many packets have arrived");
        }
        return now.arrive(flow, length, priority, slack);
    }

    public int dequeue() {
        int packet = now.leave();
        now.depart(packet, now.time);
        return packet;
    }

    public int transmit() {
        return now.send();
    }

    public int advance(int units) throws IllegalArgumentException {
        if (units < 0) {
            throw new IllegalArgumentException("time does not go back");
        }
        return now.passUntil(now.time + units);
    }

    public long time() {
        return now.time;
    }

    public long nextRelease() {
        return now.line.earliestRelease();
    }

    public int shaped() {
        return now.line.size;
    }

    // ---- queues

    public int waiting() {
        return now.countWaiting();
    }

    public int queueLength(int node) throws IndexOutOfBoundsException {
        needNode(node);
        return now.nodes[node].size;
    }

    public int queueItem(int node, int i) throws IndexOutOfBoundsException {
        needElement(node, i);
        return now.nodes[node].items[i];
    }

    public long queueRank(int node, int i) throws IndexOutOfBoundsException {
        needElement(node, i);
        return now.nodes[node].ranks[i];
    }

    public long virtualTime(int node) throws IndexOutOfBoundsException {
        needNode(node);
        return now.nodes[node].virtual;
    }

    public long state(int node, int key) throws IndexOutOfBoundsException, IllegalArgumentException {
        needNode(node);
        if (!now.plan.hasClass(node, key)) {
            throw new IllegalArgumentException("no such class at this node");
        }
        return now.nodes[node].states[key];
    }

    // ---- looking ahead

    public long rankIf(int flow, int length, int priority, int slack)
            throws IndexOutOfBoundsException, IllegalArgumentException {
        needFlow(flow);
        needPacketValues(length, priority, slack);
        return now.rankOfArrival(flow, length, priority, slack);
    }

    public int peek(int k) throws IndexOutOfBoundsException {
        if (k < 0) {
            throw new IndexOutOfBoundsException("no such place");
        }
        ahead.copyFrom(now);
        int packet = -1;
        for (int i = 0; i <= k && i <= MAX_WAITING; i++) {
            packet = ahead.leave();
        }
        return packet;
    }

    public long departureIf(int packet) throws IllegalArgumentException {
        if (!now.packets.has(packet) || now.packets.departure[packet] >= 0) {
            throw new IllegalArgumentException("no such packet waits");
        }
        ahead.copyFrom(now);
        for (int steps = 0; steps <= MAX_RELEASES + MAX_WAITING; steps++) {
            int gone = ahead.send();
            if (gone == packet) {
                return ahead.packets.departure[packet];
            }
            if (gone < 0) {
                ahead.passUntil(ahead.line.earliestRelease());
            }
        }
        return -1;
    }

    // ---- packets that arrived, counts of flows

    public int flowOf(int packet) throws IndexOutOfBoundsException {
        needPacket(packet);
        return now.packets.flow[packet];
    }

    public long deadlineOf(int packet) throws IndexOutOfBoundsException {
        needPacket(packet);
        return now.packets.deadline[packet];
    }

    public long departureOf(int packet) throws IndexOutOfBoundsException {
        needPacket(packet);
        return now.packets.departure[packet];
    }

    public int sent(int flow) throws IndexOutOfBoundsException {
        needFlow(flow);
        return now.flows.packetsSent[flow];
    }

    public int sentBytes(int flow) throws IndexOutOfBoundsException {
        needFlow(flow);
        return now.flows.bytesSent[flow];
    }

    public long totalDelay(int flow) throws IndexOutOfBoundsException {
        needFlow(flow);
        return now.flows.delaySum[flow];
    }

    public long greatestDelay(int flow) throws IndexOutOfBoundsException {
        needFlow(flow);
        return now.flows.delayMaximum[flow];
    }

    public int missed(int flow) throws IndexOutOfBoundsException {
        needFlow(flow);
        return now.flows.late[flow];
    }

    public int share(int flow) throws IndexOutOfBoundsException {
        needFlow(flow);
        long all = now.flows.allBytes();
        if (all == 0) {
            return 0;
        }
        return (int) (1000L * now.flows.bytesSent[flow] / all);
    }

    // ---- checkpoints

    public int checkpoint() throws IllegalStateException {
        if (keptCount < 0 || keptCount >= kept.length) {
            throw new IllegalStateException("too many checkpoints are kept");
        }
        kept[keptCount].copyFrom(now);
        keptCount++;
        return keptCount;
    }

    public int rollback() throws IllegalStateException {
        needCheckpoint();
        keptCount--;
        now.copyFrom(kept[keptCount]);
        return keptCount;
    }

    public int commit() throws IllegalStateException {
        needCheckpoint();
        keptCount--;
        return keptCount;
    }

    public long fingerprint() {
        long print = mix(mix(11, now.time), now.line.size);
        for (int i = 0; i < now.plan.nodeCount && i < now.nodes.length; i++) {
            Node node = now.nodes[i];
            print = mix(mix(print, node.virtual), node.size);
            for (int k = 0; k < node.size && k < MAX_WAITING; k++) {
                print = mix(mix(print, node.items[k]), node.ranks[k]);
            }
        }
        for (int flow = 0; flow < FLOWS; flow++) {
            print = mix(mix(print, now.flows.packetsSent[flow]), now.flows.bytesSent[flow]);
            print = mix(mix(print, now.flows.delaySum[flow]), now.flows.late[flow]);
        }
        return print;
    }

    private static long mix(long print, long number) {
        return 31 * print + number;
    }

    private void plant(int template) {
        reader.takeTemplate(templateText(template));
        if (reader.readTree()) {
            now.startWith(reader.plan);
        }
    }

    private static String templateText(int template) {
        switch (template) {
            case 1: return "p";
            case 2: return "d";
            case 3: return "M(v,a):r+l/w";
            case 4: return "M(v,a):r+l*100/w;0<p;0<d;0<M(v,a):r+l*100/w&";
            case 5: return "t;0<p@100,500;0<0@50,0%;0<d^";
            default: return "0";
        }
    }

    private void needNode(int node) {
        if (!now.plan.hasNode(node)) {
            throw new IndexOutOfBoundsException("no such node");
        }
    }

    private void needElement(int node, int i) {
        needNode(node);
        if (i < 0 || i >= now.nodes[node].size || i >= MAX_WAITING) {
            throw new IndexOutOfBoundsException("no such element");
        }
    }

    private static void needFlow(int flow) {
        if (flow < 0 || flow >= FLOWS) {
            throw new IndexOutOfBoundsException("no such flow");
        }
    }

    private void needPacket(int packet) {
        if (!now.packets.has(packet)) {
            throw new IndexOutOfBoundsException("no such packet");
        }
    }

    private static void needWeight(int weight) {
        if (weight < 1 || weight > MAX_WEIGHT) {
            throw new IllegalArgumentException("no such weight");
        }
    }

    private static void needPacketValues(int length, int priority, int slack) {
        if (length < 1 || length > MAX_LENGTH) {
            throw new IllegalArgumentException("no such length");
        }
        if (priority < 0 || priority > MAX_PRIORITY) {
            throw new IllegalArgumentException("no such priority");
        }
        if (slack < 0 || slack > MAX_SLACK) {
            throw new IllegalArgumentException("no such slack");
        }
    }

    private void needCheckpoint() {
        if (keptCount < 1 || keptCount > kept.length) {
            throw new IllegalStateException("no checkpoint is kept");
        }
    }

    /**
     * What a text describes. The programs stand one behind the other in postfix order: a number as
     * itself, variable k of VARIABLES as -1 - k, an operator as minus its sign.
     */
    private static final class Plan {
        int nodeCount;
        final int[] parent = new int[MAX_NODES];
        final int[] childCount = new int[MAX_NODES];
        final int[] tie = new int[MAX_NODES];
        // A rate of 0 means that there is no shaper.
        final int[] rate = new int[MAX_NODES];
        final int[] burst = new int[MAX_NODES];
        final int[] rankFrom = new int[MAX_NODES];
        final int[] stateFrom = new int[MAX_NODES];
        final int[] programEnd = new int[MAX_NODES];
        final int[] code = new int[MAX_TEXT];
        int codeLength;

        void empty() {
            nodeCount = 0;
            codeLength = 0;
        }

        boolean hasNode(int node) {
            return node >= 0 && node < nodeCount && node < MAX_NODES;
        }

        boolean isLeaf(int node) {
            return node >= 0 && node < nodeCount && node < MAX_NODES && childCount[node] == 0;
        }

        boolean hasClass(int node, int key) {
            if (isLeaf(node)) {
                return key >= 0 && key < FLOWS;
            }
            return hasNode(node) && hasNode(key) && parent[key] == node;
        }

        int firstLeaf() {
            int leaf = 0;
            while (leaf < nodeCount && !isLeaf(leaf)) {
                leaf++;
            }
            return leaf;
        }

        void addNode(int itsParent) {
            int node = nodeCount;
            if (node < 0 || node >= MAX_NODES) {
                return;
            }
            parent[node] = itsParent;
            childCount[node] = 0;
            rate[node] = 0;
            rankFrom[node] = codeLength;
            if (hasNode(itsParent)) {
                childCount[itsParent]++;
            }
            nodeCount++;
        }

        void emit(int sign) {
            if (codeLength >= 0 && codeLength < code.length) {
                code[codeLength] = sign;
                codeLength++;
            }
        }

        void copyFrom(Plan other) {
            nodeCount = other.nodeCount;
            codeLength = other.codeLength;
            System.arraycopy(other.parent, 0, parent, 0, MAX_NODES);
            System.arraycopy(other.childCount, 0, childCount, 0, MAX_NODES);
            System.arraycopy(other.tie, 0, tie, 0, MAX_NODES);
            System.arraycopy(other.rate, 0, rate, 0, MAX_NODES);
            System.arraycopy(other.burst, 0, burst, 0, MAX_NODES);
            System.arraycopy(other.rankFrom, 0, rankFrom, 0, MAX_NODES);
            System.arraycopy(other.stateFrom, 0, stateFrom, 0, MAX_NODES);
            System.arraycopy(other.programEnd, 0, programEnd, 0, MAX_NODES);
            System.arraycopy(other.code, 0, code, 0, MAX_TEXT);
        }
    }

    /**
     * Reads a text into a plan. Expressions are read with a stack of open operators, not by
     * recursion: 120 brackets may stand open at once.
     */
    private static final class Reader {
        final Plan plan = new Plan();
        private final char[] signs = new char[MAX_TEXT];
        private int length;
        private int pos;
        private int nodeAt;
        private int partAt;
        // -1 if the chain has two errors only.
        private int signAt;
        private final char[] open = new char[MAX_TEXT];
        private int openCount;

        void takeText(char[] text, int textLength) {
            length = 0;
            for (int i = 0; i < textLength && i < text.length && i < signs.length; i++) {
                signs[i] = text[i];
                length++;
            }
        }

        void takeTemplate(String template) {
            length = 0;
            for (int i = 0; i < template.length() && i < signs.length; i++) {
                signs[i] = template.charAt(i);
                length++;
            }
        }

        int errorAt(int i) {
            return i == 0 ? nodeAt : i == 1 ? partAt : signAt;
        }

        int lastError() {
            return signAt >= 0 ? signAt : partAt;
        }

        boolean readTree() {
            plan.empty();
            pos = 0;
            for (int node = 0; node <= MAX_NODES; node++) {
                boolean right = readStart(node) && readProgram(node) && readShaper(node) && readEnd(node);
                if (!right) {
                    return false;
                }
                if (sign() == END) {
                    return true;
                }
                pos++;
            }
            return false;
        }

        private boolean readStart(int node) {
            nodeAt = pos;
            partAt = pos;
            signAt = -1;
            if (node >= MAX_NODES) {
                return false;
            }
            if (node == 0) {
                plan.addNode(-1);
                return true;
            }
            int itsParent = readNumber(PARENT_DIGITS);
            if (itsParent < 0 || itsParent >= node || sign() != '<') {
                return false;
            }
            pos++;
            plan.addNode(itsParent);
            return true;
        }

        private boolean readProgram(int node) {
            partAt = pos;
            if (!readExpression(false)) {
                signAt = pos;
                return false;
            }
            plan.stateFrom[node] = plan.codeLength;
            if (sign() == ':') {
                pos++;
                if (!readExpression(true)) {
                    signAt = pos;
                    return false;
                }
            }
            plan.programEnd[node] = plan.codeLength;
            return true;
        }

        private boolean readShaper(int node) {
            if (node == 0 || sign() != '@') {
                return true;
            }
            partAt = pos;
            pos++;
            int rateAt = pos;
            int rate = readNumber(SHAPER_DIGITS);
            if (rate == 0) {
                signAt = rateAt;
                return false;
            }
            if (rate < 0 || sign() != ',') {
                signAt = pos;
                return false;
            }
            pos++;
            int burst = readNumber(SHAPER_DIGITS);
            if (burst < 0) {
                signAt = pos;
                return false;
            }
            plan.rate[node] = rate;
            plan.burst[node] = burst;
            return true;
        }

        private boolean readEnd(int node) {
            int tie = TIE_SIGNS.indexOf(sign()) + 1;
            if (tie > 0) {
                pos++;
            }
            plan.tie[node] = tie;
            partAt = pos;
            return sign() == END || sign() == ';';
        }

        /** Stays at the first sign that cannot stand at its place, and answers false, if there is one. */
        private boolean readExpression(boolean rankKnown) {
            openCount = 0;
            int due = OPERAND_DUE;
            for (int steps = 0; steps <= MAX_TEXT && due != ENDED && due != WRONG; steps++) {
                if (due == OPERAND_DUE) {
                    due = readOperand(sign(), rankKnown);
                } else {
                    due = readOperator(sign());
                }
                if (due == OPERATOR_DUE) {
                    closeNegations();
                }
            }
            return due == ENDED;
        }

        private int readOperand(char sign, boolean rankKnown) {
            if (isDigit(sign)) {
                int number = readNumber(NUMBER_DIGITS);
                if (number < 0) {
                    return WRONG;
                }
                plan.emit(number);
                return OPERATOR_DUE;
            }
            if (sign == '-' || sign == '(') {
                pushOpen(sign == '-' ? NEGATE : sign);
                pos++;
                return OPERAND_DUE;
            }
            if (sign == 'M' || sign == 'm') {
                pos++;
                if (sign() != '(') {
                    return WRONG;
                }
                pushOpen(sign);
                pos++;
                return OPERAND_DUE;
            }
            int variable = VARIABLES.indexOf(sign);
            if (variable < 0 || variable == RANK && !rankKnown) {
                return WRONG;
            }
            plan.emit(-1 - variable);
            pos++;
            return OPERATOR_DUE;
        }

        private int readOperator(char sign) {
            int strength = strengthOf(sign);
            closeOperators(strength == 0 ? 1 : strength);
            if (strength > 0) {
                pushOpen(sign);
                pos++;
                return OPERAND_DUE;
            }
            char bracket = topOpen();
            if (bracket == END) {
                return ENDED;
            }
            if (sign == ',' && (bracket == 'M' || bracket == 'm')) {
                openCount--;
                pushOpen(bracket == 'M' ? SECOND_OF_GREATER : SECOND_OF_SMALLER);
                pos++;
                return OPERAND_DUE;
            }
            if (sign != ')' || bracket == 'M' || bracket == 'm') {
                return WRONG;
            }
            openCount--;
            if (bracket != '(') {
                plan.emit(bracket == SECOND_OF_GREATER ? -'M' : -'m');
            }
            pos++;
            return OPERATOR_DUE;
        }

        private void closeNegations() {
            while (openCount > 0 && topOpen() == NEGATE) {
                plan.emit(-NEGATE);
                openCount--;
            }
        }

        private void closeOperators(int strength) {
            while (openCount > 0 && strengthOf(topOpen()) >= strength) {
                plan.emit(-topOpen());
                openCount--;
            }
        }

        private static int strengthOf(char sign) {
            if (sign == '*' || sign == '/') {
                return 2;
            }
            return sign == '+' || sign == '-' ? 1 : 0;
        }

        private void pushOpen(char sign) {
            if (openCount >= 0 && openCount < open.length) {
                open[openCount] = sign;
                openCount++;
            }
        }

        private char topOpen() {
            return openCount > 0 && openCount <= open.length ? open[openCount - 1] : END;
        }

        /** Answers -1, and stays at the wrong sign, if there is no digit or one too many. */
        private int readNumber(int maxDigits) {
            int number = 0;
            for (int digits = 0; digits <= maxDigits; digits++) {
                char sign = sign();
                if (!isDigit(sign)) {
                    return digits == 0 ? -1 : number;
                }
                if (digits < maxDigits) {
                    number = number * 10 + (sign - '0');
                    pos++;
                }
            }
            return -1;
        }

        private char sign() {
            return pos >= 0 && pos < length && pos < signs.length ? signs[pos] : END;
        }

        private static boolean isDigit(char sign) {
            return sign >= '0' && sign <= '9';
        }
    }

    /** Computes expressions; the variables are set group by group before. */
    private static final class Calculator {
        private final long[] values = new long[VARIABLE_COUNT];
        private final long[] stack = new long[MAX_TEXT];

        void setPacket(long priority, long length, long deadline) {
            values[0] = priority;
            values[1] = length;
            values[2] = deadline;
        }

        void setClass(long key, long weight, long state) {
            values[3] = key;
            values[4] = weight;
            values[5] = state;
        }

        void setMoment(long time, long virtual, long size) {
            values[6] = time;
            values[7] = virtual;
            values[8] = size;
        }

        void setRank(long rank) {
            values[RANK] = rank;
        }

        long valueOf(Plan plan, int from, int to) {
            int depth = 0;
            for (int i = from; i >= 0 && i < to && i < MAX_TEXT; i++) {
                int sign = plan.code[i];
                if (sign >= -VARIABLE_COUNT) {
                    if (depth < stack.length) {
                        stack[depth] = sign >= 0 ? sign : values[-1 - sign];
                        depth++;
                    }
                } else if (sign == -NEGATE) {
                    if (depth > 0) {
                        stack[depth - 1] = -stack[depth - 1];
                    }
                } else if (depth > 1) {
                    depth--;
                    stack[depth - 1] = combine(-sign, stack[depth - 1], stack[depth]);
                }
            }
            return stack[0];
        }

        private static long combine(int sign, long x, long y) {
            switch (sign) {
                case '+': return x + y;
                case '-': return x - y;
                case '*': return x * y;
                case '/': return y == 0 ? 0 : x / y;
                case 'M': return x >= y ? x : y;
                default: return x <= y ? x : y;
            }
        }
    }

    /** What changes at a node: its queue, and what its programs and its shaper remember. */
    private static final class Node {
        int weight;
        long virtual;
        long mark;
        final long[] states = new long[FLOWS];
        int size;
        final int[] items = new int[MAX_WAITING];
        final long[] ranks = new long[MAX_WAITING];
        // Among equal ranks the smaller tie value goes first, whatever the tie rule makes it.
        private final int[] ties = new int[MAX_WAITING];

        void restart() {
            weight = 1;
            virtual = 0;
            mark = 0;
            size = 0;
            for (int i = 0; i < states.length; i++) {
                states[i] = 0;
            }
        }

        void insert(int item, long rank, int tie, boolean beforeEquals) {
            if (size < 0 || size >= MAX_WAITING) {
                return;
            }
            int place = size;
            while (place > 0 && goesBefore(rank, tie, beforeEquals, place - 1)) {
                items[place] = items[place - 1];
                ranks[place] = ranks[place - 1];
                ties[place] = ties[place - 1];
                place--;
            }
            items[place] = item;
            ranks[place] = rank;
            ties[place] = tie;
            size++;
        }

        private boolean goesBefore(long rank, int tie, boolean beforeEquals, int place) {
            if (rank != ranks[place]) {
                return rank < ranks[place];
            }
            return beforeEquals || tie < ties[place];
        }

        /** Answers -1 if the queue is empty. */
        int removeFirst() {
            if (size < 1 || size > MAX_WAITING) {
                return -1;
            }
            int item = items[0];
            virtual = ranks[0];
            size--;
            System.arraycopy(items, 1, items, 0, size);
            System.arraycopy(ranks, 1, ranks, 0, size);
            System.arraycopy(ties, 1, ties, 0, size);
            return item;
        }

        void copyFrom(Node other) {
            weight = other.weight;
            virtual = other.virtual;
            mark = other.mark;
            size = other.size;
            System.arraycopy(other.states, 0, states, 0, FLOWS);
            System.arraycopy(other.items, 0, items, 0, MAX_WAITING);
            System.arraycopy(other.ranks, 0, ranks, 0, MAX_WAITING);
            System.arraycopy(other.ties, 0, ties, 0, MAX_WAITING);
        }
    }

    /** The packets that have arrived. They stay when they left: what waits may still be caused by them. */
    private static final class Packets {
        int arrived;
        final int[] flow = new int[MAX_PACKETS];
        final int[] length = new int[MAX_PACKETS];
        final int[] priority = new int[MAX_PACKETS];
        final long[] arrival = new long[MAX_PACKETS];
        final long[] deadline = new long[MAX_PACKETS];
        // -1 as long as the packet waits.
        final long[] departure = new long[MAX_PACKETS];

        boolean has(int packet) {
            return packet >= 0 && packet < arrived && packet < MAX_PACKETS;
        }

        int add(int itsFlow, int itsLength, int itsPriority, long time, long itsDeadline) {
            int packet = arrived;
            if (packet < 0 || packet >= MAX_PACKETS) {
                return -1;
            }
            flow[packet] = itsFlow;
            length[packet] = itsLength;
            priority[packet] = itsPriority;
            arrival[packet] = time;
            deadline[packet] = itsDeadline;
            departure[packet] = -1;
            arrived++;
            return packet;
        }

        void copyFrom(Packets other) {
            int count = Math.max(0, Math.min(other.arrived, MAX_PACKETS));
            arrived = count;
            System.arraycopy(other.flow, 0, flow, 0, count);
            System.arraycopy(other.length, 0, length, 0, count);
            System.arraycopy(other.priority, 0, priority, 0, count);
            System.arraycopy(other.arrival, 0, arrival, 0, count);
            System.arraycopy(other.deadline, 0, deadline, 0, count);
            System.arraycopy(other.departure, 0, departure, 0, count);
        }
    }

    /** The flows, with the counts of what has left. */
    private static final class Flows {
        final int[] weight = new int[FLOWS];
        final int[] leaf = new int[FLOWS];
        final int[] packetsSent = new int[FLOWS];
        final int[] bytesSent = new int[FLOWS];
        final long[] delaySum = new long[FLOWS];
        final long[] delayMaximum = new long[FLOWS];
        final int[] late = new int[FLOWS];

        Flows() {
            for (int flow = 0; flow < FLOWS; flow++) {
                weight[flow] = 1;
            }
        }

        /** The weights stay when a tree is loaded. */
        void restart(int firstLeaf) {
            for (int flow = 0; flow < FLOWS; flow++) {
                leaf[flow] = firstLeaf;
                packetsSent[flow] = 0;
                bytesSent[flow] = 0;
                delaySum[flow] = 0;
                delayMaximum[flow] = 0;
                late[flow] = 0;
            }
        }

        void count(int flow, int bytes, long delay, boolean isLate) {
            if (flow < 0 || flow >= FLOWS) {
                return;
            }
            packetsSent[flow]++;
            bytesSent[flow] += bytes;
            delaySum[flow] += delay;
            delayMaximum[flow] = Math.max(delayMaximum[flow], delay);
            if (isLate) {
                late[flow]++;
            }
        }

        long allBytes() {
            long all = 0;
            for (int flow = 0; flow < FLOWS; flow++) {
                all += bytesSent[flow];
            }
            return all;
        }

        void copyFrom(Flows other) {
            System.arraycopy(other.weight, 0, weight, 0, FLOWS);
            System.arraycopy(other.leaf, 0, leaf, 0, FLOWS);
            System.arraycopy(other.packetsSent, 0, packetsSent, 0, FLOWS);
            System.arraycopy(other.bytesSent, 0, bytesSent, 0, FLOWS);
            System.arraycopy(other.delaySum, 0, delaySum, 0, FLOWS);
            System.arraycopy(other.delayMaximum, 0, delayMaximum, 0, FLOWS);
            System.arraycopy(other.late, 0, late, 0, FLOWS);
        }
    }

    /**
     * What waits for its release, in the order in which it began to wait. Each packet in a leaf has
     * one element on its way to the root, so no more than 64 of them wait.
     */
    private static final class Line {
        int size;
        final int[] node = new int[MAX_WAITING];
        final int[] packet = new int[MAX_WAITING];
        final long[] release = new long[MAX_WAITING];

        void add(int itsNode, int itsPacket, long itsRelease) {
            if (size < 0 || size >= MAX_WAITING) {
                return;
            }
            node[size] = itsNode;
            packet[size] = itsPacket;
            release[size] = itsRelease;
            size++;
        }

        /** Answers -1 if nothing waits. */
        int earliest() {
            int best = -1;
            for (int i = 0; i < size && i < MAX_WAITING; i++) {
                if (best < 0 || release[i] < release[best]) {
                    best = i;
                }
            }
            return best;
        }

        long earliestRelease() {
            int best = earliest();
            return best < 0 ? -1 : release[best];
        }

        void remove(int place) {
            if (place < 0 || place >= size || size > MAX_WAITING) {
                return;
            }
            size--;
            System.arraycopy(node, place + 1, node, place, size - place);
            System.arraycopy(packet, place + 1, packet, place, size - place);
            System.arraycopy(release, place + 1, release, place, size - place);
        }

        void copyFrom(Line other) {
            size = other.size;
            System.arraycopy(other.node, 0, node, 0, MAX_WAITING);
            System.arraycopy(other.packet, 0, packet, 0, MAX_WAITING);
            System.arraycopy(other.release, 0, release, 0, MAX_WAITING);
        }
    }

    /** All that a checkpoint keeps, and what happens in it. */
    private static final class World {
        long time;
        int linkRate = 1;
        final Plan plan = new Plan();
        final Node[] nodes = new Node[MAX_NODES];
        final Packets packets = new Packets();
        final Flows flows = new Flows();
        final Line line = new Line();
        private final Calculator calculator;

        World(Calculator calculator) {
            this.calculator = calculator;
            for (int i = 0; i < nodes.length; i++) {
                nodes[i] = new Node();
            }
        }

        void startWith(Plan newPlan) {
            plan.copyFrom(newPlan);
            time = 0;
            packets.arrived = 0;
            line.size = 0;
            for (int i = 0; i < nodes.length; i++) {
                nodes[i].restart();
            }
            flows.restart(plan.firstLeaf());
        }

        void copyFrom(World other) {
            time = other.time;
            linkRate = other.linkRate;
            plan.copyFrom(other.plan);
            packets.copyFrom(other.packets);
            flows.copyFrom(other.flows);
            line.copyFrom(other.line);
            for (int i = 0; i < nodes.length; i++) {
                nodes[i].copyFrom(other.nodes[i]);
            }
        }

        int countWaiting() {
            int count = 0;
            for (int i = 0; i < nodes.length; i++) {
                if (plan.isLeaf(i)) {
                    count += nodes[i].size;
                }
            }
            return count;
        }

        int arrive(int flow, int length, int priority, int slack) {
            int packet = packets.add(flow, length, priority, time, time + slack);
            climb(leafFor(flow), packet, packet, time);
            return packet;
        }

        long rankOfArrival(int flow, int length, int priority, int slack) {
            int leaf = leafFor(flow);
            calculator.setPacket(priority, length, time + slack);
            if (!lookAround(leaf, flow, time)) {
                return 0;
            }
            return calculator.valueOf(plan, plan.rankFrom[leaf], plan.stateFrom[leaf]);
        }

        private int leafFor(int flow) {
            int leaf = flow >= 0 && flow < FLOWS ? flows.leaf[flow] : 0;
            return plan.hasNode(leaf) ? leaf : 0;
        }

        /** Lets an element enter a node, and the nodes above it until a shaper holds it back. */
        private void climb(int start, int startItem, int packet, long t) {
            if (!packets.has(packet)) {
                return;
            }
            calculator.setPacket(packets.priority[packet], packets.length[packet], packets.deadline[packet]);
            int node = start;
            int item = startItem;
            for (int level = 0; level < MAX_NODES && plan.hasNode(node); level++) {
                enter(node, item, packet, t);
                long release = shape(node, packets.length[packet], t);
                if (release > t) {
                    line.add(node, packet, release);
                    return;
                }
                item = node;
                node = plan.parent[node];
            }
        }

        private void enter(int node, int item, int packet, long t) {
            int key = plan.isLeaf(node) ? packets.flow[packet] : item;
            if (!lookAround(node, key, t)) {
                return;
            }
            int stateFrom = plan.stateFrom[node];
            int programEnd = plan.programEnd[node];
            long rank = calculator.valueOf(plan, plan.rankFrom[node], stateFrom);
            if (stateFrom < programEnd) {
                calculator.setRank(rank);
                nodes[node].states[key] = calculator.valueOf(plan, stateFrom, programEnd);
            }
            int rule = plan.tie[node];
            int tie = rule == TIE_SHORT ? packets.length[packet] : rule == TIE_CLASS ? key : 0;
            nodes[node].insert(item, rank, tie, rule == TIE_LAST);
        }

        /** Answers false, and sets nothing, if there is no such class at the node. */
        private boolean lookAround(int node, int key, long t) {
            if (!plan.hasClass(node, key)) {
                return false;
            }
            Node place = nodes[node];
            int weight = plan.isLeaf(node) ? flows.weight[key] : nodes[key].weight;
            calculator.setClass(key, weight, place.states[key]);
            calculator.setMoment(t, place.virtual, place.size);
            return true;
        }

        /** The release time of what has entered a node at time t; t itself if there is no shaper. */
        private long shape(int node, int length, long t) {
            int rate = plan.rate[node];
            if (rate < 1) {
                return t;
            }
            long mark = nodes[node].mark;
            nodes[node].mark = Math.max(mark, t) + unitsUp(length, rate);
            return Math.max(t, mark - plan.burst[node] * 1000L / rate);
        }

        private static long unitsUp(int bytes, int rate) {
            return rate < 1 ? 0 : (bytes * 1000L + rate - 1) / rate;
        }

        /** Answers the packet that leaves, -1 if nothing can leave. */
        int leave() {
            int node = 0;
            for (int level = 0; level < MAX_NODES && plan.hasNode(node); level++) {
                int item = nodes[node].removeFirst();
                if (item < 0 || plan.isLeaf(node)) {
                    return item;
                }
                node = item;
            }
            return -1;
        }

        void depart(int packet, long when) {
            if (!packets.has(packet)) {
                return;
            }
            packets.departure[packet] = when;
            long delay = when - packets.arrival[packet];
            boolean isLate = when > packets.deadline[packet];
            flows.count(packets.flow[packet], packets.length[packet], delay, isLate);
        }

        int send() {
            int packet = leave();
            if (packets.has(packet)) {
                long end = time + unitsUp(packets.length[packet], linkRate);
                depart(packet, end);
                passUntil(end);
            }
            return packet;
        }

        /** Answers how many times something was released. */
        int passUntil(long end) {
            int count = 0;
            int first = line.earliest();
            while (first >= 0 && line.release[first] <= end && count < MAX_RELEASES) {
                int node = line.node[first];
                int packet = line.packet[first];
                long release = line.release[first];
                line.remove(first);
                if (plan.hasNode(node)) {
                    climb(plan.parent[node], node, packet, release);
                }
                count++;
                first = line.earliest();
            }
            time = Math.max(time, end);
            return count;
        }
    }
}
