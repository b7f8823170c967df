/** Promises 23 to 31: what stands in the queues, and looking ahead. */
final class QueuesTest {
    private static final String INDEX = " = throws IndexOutOfBoundsException; ";
    private static final String ARGUMENT = " = throws IllegalArgumentException; ";

    public static void main(String[] args) {
        tiesInALeaf();
        tiesInAnInnerNode();
        tiesBehindLeaving();
        elements();
        states();
        ranksAhead();
        peeking();
        departuresAhead();
        Script.end();
    }

    private static void order(String text, String order) {
        Script s = new Script("order of " + text, 1000).loaded(text, 1);
        s.calls("enqueue(3, 30, 1, 0) = 0; enqueue(1, 10, 0, 0) = 1; enqueue(2, 20, 1, 0) = 2; enqueue(1, 10, 1, 0) = 3; "
                + "enqueue(3, 30, 0, 0) = 4; enqueue(2, 10, 1, 0) = 5; enqueue(1, 30, 1, 0) = 6");
        for (int i = 0; i < order.length(); i++) {
            s.calls("queueItem(0, " + i + ") = " + order.charAt(i) + "; peek(" + i + ") = " + order.charAt(i));
        }
        for (int i = 0; i < order.length(); i++) {
            s.calls("dequeue() = " + order.charAt(i));
        }
    }

    private static void tiesInALeaf() {
        order("0", "0123456");
        order("0^", "6543210");
        order("0%", "1352046");
        order("0&", "1362504");
        order("p", "1402356");
        order("p^", "4165320");
        order("p%", "1435206");
        order("p&", "1436250");
        order("-p", "0235614");
        order("l", "1352046");
        order("l*p^", "4153260");
    }

    private static void tiesInAnInnerNode() {
        String packets = "assign(1, 2) = 1; assign(2, 3) = 1; enqueue(2, 30, 0, 0) = 0; enqueue(0, 10, 0, 0) = 1; "
                + "enqueue(1, 20, 0, 0) = 2; enqueue(2, 10, 0, 0) = 3; ";
        Script s = new Script("ties in an inner node", 1000);
        s.loaded("0;0<0;0<0;0<0", 4).calls(packets + "queueItem(0, 0) = 3; queueItem(0, 1) = 1; queueItem(0, 2) = 2; "
                + "queueItem(0, 3) = 3; dequeue() = 0; dequeue() = 1; dequeue() = 2; dequeue() = 3");
        s.loaded("0^;0<0;0<0;0<0", 4).calls(packets + "queueItem(0, 0) = 3; queueItem(0, 1) = 2; queueItem(0, 2) = 1; "
                + "queueItem(0, 3) = 3; dequeue() = 0; dequeue() = 2; dequeue() = 1; dequeue() = 3");
        s.loaded("0%;0<0;0<0;0<0", 4).calls(packets + "queueItem(0, 0) = 1; queueItem(0, 1) = 3; queueItem(0, 2) = 2; "
                + "queueItem(0, 3) = 3; dequeue() = 1; dequeue() = 0; dequeue() = 2; dequeue() = 3");
        s.loaded("0&;0<0;0<0;0<0^", 4).calls(packets + "queueItem(0, 0) = 1; queueItem(0, 1) = 2; queueItem(0, 2) = 3; "
                + "queueItem(0, 3) = 3; dequeue() = 1; dequeue() = 2; dequeue() = 3; dequeue() = 0");
    }

    /** The tie values move up with their elements when others leave. */
    private static void tiesBehindLeaving() {
        Script s = new Script("ties behind leaving", 1000);
        s.loaded("0%", 1).calls("enqueue(0, 10, 0, 0) = 0; enqueue(0, 30, 0, 0) = 1; enqueue(0, 50, 0, 0) = 2; "
                + "dequeue() = 0; enqueue(0, 40, 0, 0) = 3; enqueue(0, 20, 0, 0) = 4; queueItem(0, 0) = 4; "
                + "queueItem(0, 1) = 1; queueItem(0, 2) = 3; queueItem(0, 3) = 2; checkpoint() = 1");
        s.calls("dequeue() = 4; dequeue() = 1; enqueue(0, 1, 0, 0) = 5; enqueue(0, 2, 0, 0) = 6; rollback() = 0; "
                + "enqueue(0, 35, 0, 0) = 5; queueItem(0, 0) = 4; queueItem(0, 1) = 1; queueItem(0, 2) = 5; "
                + "queueItem(0, 3) = 3; queueItem(0, 4) = 2");
    }

    private static void elements() {
        Script s = new Script("elements", 1000);
        s.loaded("p;0<l;0<l@1,0", 3);
        s.calls("waiting() = 0; queueLength(0) = 0; queueLength(2) = 0; queueLength(3)" + INDEX + "queueLength(-1)" + INDEX
                + "queueItem(0, 0)" + INDEX + "queueRank(0, 0)" + INDEX
                + "assign(1, 2) = 1; enqueue(0, 10, 7, 0) = 0; enqueue(1, 20, 3, 0) = 1; enqueue(1, 15, 3, 0) = 2; "
                + "waiting() = 3; queueLength(0) = 2; queueLength(1) = 1; queueLength(2) = 2; queueItem(0, 0) = 2; "
                + "queueItem(0, 1) = 1; queueRank(0, 0) = 3; queueRank(0, 1) = 7; queueItem(2, 0) = 2; queueItem(2, 1) = 1; "
                + "queueRank(2, 0) = 15; queueRank(2, 1) = 20; queueRank(1, 0) = 10; queueItem(1, 0) = 0; "
                + "queueItem(0, 2)" + INDEX + "queueItem(0, -1)" + INDEX + "queueItem(3, 0)" + INDEX
                + "queueItem(-1, 0)" + INDEX + "queueRank(0, 2)" + INDEX + "queueRank(0, -1)" + INDEX
                + "queueRank(3, 0)" + INDEX + "queueRank(-1, 0)" + INDEX + "queueItem(2, 64)" + INDEX
                + "queueRank(2, 2147483647)" + INDEX + "queueItem(2, -2147483648)" + INDEX
                + "virtualTime(0) = 0; virtualTime(3)" + INDEX + "virtualTime(-1)" + INDEX
                + "dequeue() = 2; waiting() = 2; virtualTime(0) = 3; virtualTime(2) = 15; virtualTime(1) = 0");
    }

    private static void states() {
        Script s = new Script("states", 1000);
        s.loaded("p:a+l;0<p:a+1;0<p;1<p:r", 4);
        s.calls("assign(5, 3) = 2; state(0, 1) = 0; enqueue(5, 10, 4, 0) = 0; state(0, 1) = 10; state(1, 3) = 1; "
                + "state(3, 5) = 4; enqueue(5, 20, 6, 0) = 1; state(0, 1) = 30; state(1, 3) = 2; state(3, 5) = 6; "
                + "state(3, 4) = 0; enqueue(4, 7, 1, 0) = 2; state(0, 2) = 7; state(2, 4) = 0; state(2, 15) = 0; "
                + "state(4, 0)" + INDEX + "state(-1, 0)" + INDEX + "state(4, 99)" + INDEX
                + "state(0, 0)" + ARGUMENT + "state(0, 3)" + ARGUMENT + "state(0, -1)" + ARGUMENT + "state(0, 4)" + ARGUMENT
                + "state(1, 2)" + ARGUMENT + "state(1, 1)" + ARGUMENT + "state(1, 16)" + ARGUMENT
                + "state(2, 16)" + ARGUMENT + "state(2, -1)" + ARGUMENT + "state(3, 2147483647)" + ARGUMENT
                + "dequeue() = 2; dequeue() = 0; dequeue() = 1; state(0, 1) = 30; state(3, 5) = 6");
        // States do not wait for a shaper at the node itself, but those above it do.
        s.loaded("0:a+1;0<0:a+1@1,0", 2).calls("enqueue(0, 1, 0, 0) = 0; enqueue(0, 1, 0, 0) = 1; state(1, 0) = 2; "
                + "state(0, 1) = 1; advance(1000) = 1; state(0, 1) = 2");
    }

    private static void ranksAhead() {
        Script s = new Script("ranks ahead", 1000);
        s.loaded("M(v,a)+p*1000+d:r+l/w", 1);
        s.calls("rankIf(16, 1, 0, 0)" + INDEX + "rankIf(-1, 0, 0, 0)" + INDEX + "rankIf(0, 0, 0, 0)" + ARGUMENT
                + "rankIf(0, 1501, 0, 0)" + ARGUMENT + "rankIf(0, 1, -1, 0)" + ARGUMENT + "rankIf(0, 1, 10, 0)" + ARGUMENT
                + "rankIf(0, 1, 0, -1)" + ARGUMENT + "rankIf(0, 1, 0, 1000001)" + ARGUMENT
                + "setFlowWeight(2, 10) = 1; advance(3) = 0; rankIf(2, 100, 2, 40) = 2043; enqueue(2, 100, 2, 40) = 0; "
                + "queueRank(0, 0) = 2043; state(0, 2) = 2053; rankIf(2, 100, 2, 40) = 4096; rankIf(3, 1500, 9, 1000000) = 1009003; "
                + "rankIf(2, 100, 2, 40) = 4096; state(0, 2) = 2053");
    }

    private static void peeking() {
        Script s = new Script("peeking", 1000);
        s.loaded("p;0<-l;0<0@1,0", 3);
        s.calls("peek(0) = -1; peek(-1)" + INDEX + "peek(-2147483648)" + INDEX + "assign(1, 2) = 1; "
                + "enqueue(0, 10, 1, 0) = 0; enqueue(0, 20, 5, 0) = 1; enqueue(1, 10, 3, 0) = 2; enqueue(1, 10, 0, 0) = 3; "
                + "peek(0) = 1; peek(1) = 2; peek(2) = 0; peek(3) = -1; peek(64) = -1; peek(2147483647) = -1; "
                + "dequeue() = 1; peek(0) = 2; peek(1) = 0; peek(2) = -1; advance(10000) = 1; peek(0) = 2; peek(1) = 3; "
                + "peek(2) = 0; peek(3) = -1");
        Script full = new Script("peeking at 64", 1000).loaded("n", 1);
        full.times(64, "enqueue(0, 1, 0, 0)");
        full.calls("peek(0) = 0; peek(62) = 62; peek(63) = 63; peek(64) = -1; peek(65) = -1");
    }

    private static void departuresAhead() {
        Script s = new Script("departures ahead", 1000);
        s.calls("departureIf(0)" + ARGUMENT + "departureIf(-1)" + ARGUMENT + "departureIf(2147483647)" + ARGUMENT);
        s.loaded("p;0<p@10,0;0<p", 3);
        s.calls("assign(1, 2) = 1; enqueue(0, 10, 5, 0) = 0; enqueue(0, 10, 0, 0) = 1; enqueue(0, 10, 1, 0) = 2; "
                + "enqueue(1, 1500, 7, 0) = 3; departureIf(1) = 10; departureIf(3) = 1510; departureIf(2) = 1520; "
                + "departureIf(0) = 2010; departureIf(4)" + ARGUMENT + "departureIf(-1)" + ARGUMENT
                + "transmit() = 1; departureIf(1)" + ARGUMENT + "transmit() = 3; transmit() = 2; transmit() = -1; "
                + "departureIf(0) = 2010; advance(480) = 1; departureIf(0) = 2010; transmit() = 0; departureOf(0) = 2010");
        // Programs run on in the look ahead, without any trace.
        s.loaded("M(v,a):r+l;0<p@1000,0;0<0@500,0", 3);
        s.calls("assign(1, 2) = 1; enqueue(0, 100, 0, 0) = 0; enqueue(0, 100, 0, 0) = 1; enqueue(1, 100, 0, 0) = 2; "
                + "enqueue(1, 100, 0, 0) = 3; departureIf(0) = 100; departureIf(2) = 200; departureIf(1) = 300; "
                + "departureIf(3) = 400; transmit() = 0; transmit() = 2; transmit() = 1; transmit() = 3; time() = 400");
    }
}
