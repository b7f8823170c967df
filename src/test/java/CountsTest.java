/** Promises 32 to 44: packets that arrived, counts of flows, checkpoints, the fingerprint. */
final class CountsTest {
    private static final String INDEX = " = throws IndexOutOfBoundsException; ";
    private static final String STATE = " = throws IllegalStateException; ";

    public static void main(String[] args) {
        packets();
        counts();
        shares();
        wrongFlows();
        checkpoints();
        checkpointsKeepAll();
        fingerprints();
        Script.end();
    }

    private static void packets() {
        String all = "";
        for (String call : new String[] {"flowOf", "deadlineOf", "departureOf"}) {
            all += call + "(2)" + INDEX + call + "(-1)" + INDEX + call + "(500)" + INDEX + call + "(2147483647)" + INDEX;
        }
        new Script("packets", 1000).calls("flowOf(0)" + INDEX + "deadlineOf(0)" + INDEX + "departureOf(0)" + INDEX
                + "advance(10) = 0; enqueue(7, 100, 0, 50) = 0; enqueue(3, 100, 0, 0) = 1; flowOf(0) = 7; flowOf(1) = 3; "
                + "deadlineOf(0) = 60; deadlineOf(1) = 10; departureOf(0) = -1; " + all
                + "transmit() = 0; departureOf(0) = 110; departureOf(1) = -1; flowOf(0) = 7; deadlineOf(0) = 60; "
                + "advance(5) = 0; dequeue() = 1; departureOf(1) = 115");
    }

    private static void counts() {
        new Script("counts", 1000).calls("enqueue(1, 100, 0, 100) = 0; enqueue(1, 200, 0, 299) = 1; "
                + "enqueue(2, 50, 0, 1000) = 2; enqueue(1, 10, 0, 0) = 3; greatestDelay(1) = 0; totalDelay(1) = 0; "
                + "transmit() = 0; sent(1) = 1; sentBytes(1) = 100; totalDelay(1) = 100; greatestDelay(1) = 100; "
                + "missed(1) = 0; transmit() = 1; sent(1) = 2; sentBytes(1) = 300; totalDelay(1) = 400; "
                + "greatestDelay(1) = 300; missed(1) = 1; transmit() = 2; sent(2) = 1; totalDelay(2) = 350; missed(2) = 0; "
                + "dequeue() = 3; sent(1) = 3; sentBytes(1) = 310; totalDelay(1) = 750; greatestDelay(1) = 350; "
                + "missed(1) = 2; enqueue(1, 1, 0, 0) = 4; dequeue() = 4; missed(1) = 2; greatestDelay(1) = 350; "
                + "totalDelay(1) = 750; sent(1) = 4; sent(0) = 0; sentBytes(0) = 0; missed(0) = 0");
    }

    private static void shares() {
        new Script("shares", 1000).calls("share(0) = 0; enqueue(0, 100, 0, 0) = 0; enqueue(1, 200, 0, 0) = 1; "
                + "enqueue(2, 3, 0, 0) = 2; share(0) = 0; dequeue() = 0; share(0) = 1000; share(1) = 0; dequeue() = 1; "
                + "share(0) = 333; share(1) = 666; dequeue() = 2; share(0) = 330; share(1) = 660; share(2) = 9; share(15) = 0");
    }

    private static void wrongFlows() {
        Script s = new Script("wrong flows", 1000);
        for (String call : new String[] {"sent", "sentBytes", "totalDelay", "greatestDelay", "missed", "share"}) {
            s.calls(call + "(-1)" + INDEX + call + "(16)" + INDEX + call + "(-2147483648)" + INDEX + call + "(15) = 0");
        }
    }

    private static void checkpoints() {
        new Script("checkpoints", 1000).calls("rollback()" + STATE + "commit()" + STATE + "checkpoint() = 1; "
                + "advance(1) = 0; checkpoint() = 2; advance(1) = 0; checkpoint() = 3; advance(1) = 0; checkpoint()" + STATE
                + "time() = 3; rollback() = 2; time() = 2; commit() = 1; time() = 2; checkpoint() = 2; advance(5) = 0; "
                + "rollback() = 1; time() = 2; rollback() = 0; time() = 0; rollback()" + STATE + "commit()" + STATE
                + "checkpoint() = 1; commit() = 0; rollback()" + STATE);
    }

    private static void checkpointsKeepAll() {
        Script s = new Script("what checkpoints keep", 1000);
        s.loaded("M(v,a):r+l;0<p@100,0^;0<t:a@7,9", 3);
        s.calls("assign(1, 2) = 1; setFlowWeight(3, 5) = 1; setNodeWeight(1, 6) = 1; enqueue(0, 10, 3, 9) = 0; "
                + "enqueue(0, 10, 3, 9) = 1; enqueue(0, 30, 1, 9) = 2; enqueue(1, 40, 2, 9) = 3; enqueue(1, 50, 2, 9) = 4; "
                + "transmit() = 2; advance(3) = 0");
        String before = Script.everything(s.tree, true);
        s.calls("checkpoint() = 1; setFlowWeight(3, 1) = 5; setNodeWeight(1, 1) = 6; assign(1, 1) = 2; "
                + "setLinkRate(3) = 1000; enqueue(1, 70, 8, 1) = 5; advance(100) = 1; transmit() = 3; dequeue() = 1; "
                + "loadTemplate(5) = 4; enqueue(9, 1, 1, 1) = 0; transmit() = 0; rollback() = 0");
        Script.due("everything behind rollback()", Script.everything(s.tree, true), before);
        // The marks of the shapers are kept too.
        s.calls("checkpoint() = 1; enqueue(0, 1, 0, 0) = 5; advance(1000000) = 4; rollback() = 0; "
                + "enqueue(0, 1, 0, 0) = 5; nextRelease() = 100; advance(67) = 1; nextRelease() = 200; shaped() = 3; "
                + "advance(100) = 1; nextRelease() = 500; advance(300) = 1; nextRelease() = 4430");
        // What the packets of the checkpoint still need: priority for the programs, arrival for the delay.
        s.loaded("p;0<0@1,0", 2).calls("advance(10) = 0; enqueue(0, 1, 3, 7) = 0; enqueue(0, 1, 8, 7) = 1; "
                + "dequeue() = 0; virtualTime(0) = 3; checkpoint() = 1; loadTemplate(1) = 1; enqueue(5, 9, 2, 0) = 0; "
                + "enqueue(5, 9, 1, 0) = 1; dequeue() = 1; rollback() = 0; virtualTime(0) = 3; advance(1000) = 1; "
                + "queueRank(0, 0) = 8; dequeue() = 1; totalDelay(0) = 1000; greatestDelay(0) = 1000; missed(0) = 1; "
                + "sentBytes(0) = 2; flowOf(1) = 0");
        // The text and the errors are not kept.
        Script t = new Script("text and checkpoints", 1000);
        t.calls("checkpoint() = 1; type(112) = 1; type(43) = 2; loadTree() = -3; rollback() = 0; errorPosition(2) = 2; "
                + "type(112) = 3; checkpoint() = 1; loadTree() = 1; type(48) = 1; rollback() = 0; errorPosition(0) = -1; "
                + "clearText() = 1");
    }

    private static void print(SchedulerTree x, String name) {
        long print = 11;
        print = 31 * print + x.time();
        print = 31 * print + x.shaped();
        for (int node = 0; node < x.nodes(); node++) {
            print = 31 * print + x.virtualTime(node);
            print = 31 * print + x.queueLength(node);
            for (int i = 0; i < x.queueLength(node); i++) {
                print = 31 * print + x.queueItem(node, i);
                print = 31 * print + x.queueRank(node, i);
            }
        }
        for (int flow = 0; flow < 16; flow++) {
            print = 31 * print + x.sent(flow);
            print = 31 * print + x.sentBytes(flow);
            print = 31 * print + x.totalDelay(flow);
            print = 31 * print + x.missed(flow);
        }
        Script.due("fingerprint " + name, x.fingerprint(), print);
    }

    private static void fingerprints() {
        Script s = new Script("fingerprints", 1000);
        print(s.tree, "of a new object");
        s.loaded("p*999999*999999*999999;0<-p;0<d@5,0^", 3);
        s.calls("assign(1, 2) = 1");
        for (int packet = 0; packet < 40; packet++) {
            s.times(1, "enqueue(" + packet % 2 + ", " + (1 + packet) + ", " + packet % 10 + ", " + packet + ")");
            print(s.tree, "behind packet " + packet);
        }
        for (int i = 0; i < 30; i++) {
            s.times(1, "transmit()", "advance(100)");
            print(s.tree, "behind transmission " + i);
        }
        new Script("fingerprint of one packet", 50).calls("enqueue(0, 10, 0, 0) = 0; dequeue() = 0; advance(5) = 0; "
                + "fingerprint() = -284334967807064369");
    }
}
