/** Promises 11 to 22: flows and weights, packets and time. */
final class PacketsTest {
    private static final String INDEX = " = throws IndexOutOfBoundsException; ";
    private static final String ARGUMENT = " = throws IllegalArgumentException; ";
    private static final String STATE = " = throws IllegalStateException; ";

    public static void main(String[] args) {
        weights();
        leaves();
        linkRate();
        arrivals();
        limits();
        leaving();
        transmitting();
        shaping();
        rounding();
        shapersInARow();
        causeThatLeft();
        manyReleases();
        Script.end();
    }

    private static void weights() {
        Script s = new Script("weights", 1);
        s.loaded("w;0<w;0<w", 3);
        s.calls("setFlowWeight(0, 100) = 1; setFlowWeight(0, 1) = 100; setFlowWeight(15, 3) = 1; "
                + "setFlowWeight(16, 3)" + INDEX + "setFlowWeight(-1, 3)" + INDEX + "setFlowWeight(16, 0)" + INDEX
                + "setFlowWeight(5, 0)" + ARGUMENT + "setFlowWeight(5, 101)" + ARGUMENT
                + "setFlowWeight(5, -2147483648)" + ARGUMENT + "setFlowWeight(15, 4) = 3; rankIf(15, 1, 0, 0) = 4");
        s.calls("setNodeWeight(0, 100) = 1; setNodeWeight(1, 8) = 1; setNodeWeight(1, 9) = 8; setNodeWeight(0, 1) = 100; "
                + "setNodeWeight(3, 5)" + INDEX + "setNodeWeight(-1, 5)" + INDEX + "setNodeWeight(3, 0)" + INDEX
                + "setNodeWeight(2, 0)" + ARGUMENT + "setNodeWeight(2, 101)" + ARGUMENT
                + "enqueue(15, 1, 0, 0) = 0; queueRank(1, 0) = 4; queueRank(0, 0) = 9");
    }

    private static void leaves() {
        Script s = new Script("leaves", 1);
        s.loaded("p;0<p;0<p;1<p", 4);
        s.calls("leafOf(0) = 2; leafOf(15) = 2; leafOf(16)" + INDEX + "leafOf(-1)" + INDEX
                + "assign(0, 3) = 2; assign(0, 2) = 3; assign(0, 3) = 2; leafOf(0) = 3; leafOf(1) = 2; "
                + "assign(16, 3)" + INDEX + "assign(-1, 3)" + INDEX + "assign(0, 4)" + INDEX + "assign(0, -1)" + INDEX
                + "assign(16, 0)" + INDEX + "assign(0, 0)" + ARGUMENT + "assign(0, 1)" + ARGUMENT + "leafOf(0) = 3");
        // Packets that have arrived stay where they are.
        s.calls("enqueue(0, 1, 0, 0) = 0; queueLength(3) = 1; assign(0, 2) = 3; queueLength(3) = 1; "
                + "enqueue(0, 1, 0, 0) = 1; queueItem(2, 0) = 1; queueItem(3, 0) = 0; queueItem(0, 0) = 1; "
                + "queueItem(0, 1) = 2; queueItem(1, 0) = 3; queueLength(1) = 1");
    }

    private static void linkRate() {
        new Script("link rate", 1000).calls("setLinkRate(0)" + ARGUMENT + "setLinkRate(10000)" + ARGUMENT
                + "setLinkRate(-1)" + ARGUMENT + "setLinkRate(9999) = 1000; setLinkRate(1) = 9999; "
                + "setLinkRate(300) = 1; enqueue(0, 100, 0, 0) = 0; departureIf(0) = 334; setLinkRate(400) = 300; "
                + "departureIf(0) = 250; transmit() = 0; time() = 250");
    }

    private static void arrivals() {
        new Script("arrivals", 1000).calls("enqueue(16, 1, 0, 0)" + INDEX + "enqueue(-1, 1, 0, 0)" + INDEX
                + "enqueue(16, 0, -1, -1)" + INDEX + "enqueue(0, 0, 0, 0)" + ARGUMENT
                + "enqueue(0, 1501, 0, 0)" + ARGUMENT + "enqueue(0, 1, -1, 0)" + ARGUMENT
                + "enqueue(0, 1, 10, 0)" + ARGUMENT + "enqueue(0, 1, 0, -1)" + ARGUMENT
                + "enqueue(0, 1, 0, 1000001)" + ARGUMENT + "enqueue(0, 1, 0, -2147483648)" + ARGUMENT
                + "advance(2147483647) = 0; enqueue(15, 1500, 9, 1000000) = 0; enqueue(0, 1, 0, 0) = 1; "
                + "deadlineOf(0) = 2148483647; deadlineOf(1) = 2147483647; flowOf(0) = 15; waiting() = 2; time() = 2147483647");
    }

    private static void limits() {
        Script s = new Script("limits", 1000);
        s.loaded("p;0<p;0<p@1,0", 3).calls("assign(1, 2) = 1");
        for (int packet = 0; packet < 64; packet++) {
            s.calls("enqueue(" + packet % 2 + ", 1, 0, 0) = " + packet);
        }
        s.calls("waiting() = 64; shaped() = 31; enqueue(0, 1, 0, 0)" + STATE + "enqueue(0, 0, 0, 0)" + ARGUMENT
                + "enqueue(16, 1, 0, 0)" + INDEX + "rankIf(0, 1, 8, 0) = 8; dequeue() = 0; "
                + "enqueue(0, 1, 0, 0) = 64; enqueue(0, 1, 0, 0)" + STATE);
        Script t = new Script("500 packets", 1000);
        for (int packet = 0; packet < 500; packet++) {
            t.times(1, "enqueue(" + packet % 16 + ", " + (1 + packet) + ", 0, 0)", "dequeue()");
        }
        t.calls("waiting() = 0; enqueue(0, 1, 0, 0)" + STATE + "enqueue(0, 1, 10, 0)" + ARGUMENT
                + "flowOf(499) = 3; flowOf(500)" + INDEX + "rankIf(0, 1, 8, 0) = 0; sent(3) = 32; checkpoint() = 1; "
                + "loadTemplate(1) = 1; enqueue(4, 1, 6, 0) = 0; queueRank(0, 0) = 6; rollback() = 0; "
                + "enqueue(0, 1, 0, 0)" + STATE);
    }

    private static void leaving() {
        Script s = new Script("leaving", 1000);
        s.loaded("-p;0<p;0<p", 3);
        s.calls("dequeue() = -1; transmit() = -1; time() = 0; assign(1, 2) = 1; enqueue(0, 10, 2, 0) = 0; "
                + "enqueue(1, 10, 3, 0) = 1; enqueue(0, 10, 1, 0) = 2; queueItem(0, 0) = 2; queueItem(0, 1) = 1; "
                + "queueItem(0, 2) = 1; advance(5) = 0; dequeue() = 1; virtualTime(0) = -3; virtualTime(2) = 3; "
                + "virtualTime(1) = 0; departureOf(1) = 5; departureOf(2) = -1; dequeue() = 2; virtualTime(0) = -2; "
                + "virtualTime(1) = 1; dequeue() = 0; virtualTime(1) = 2; dequeue() = -1; time() = 5; waiting() = 0");
    }

    private static void transmitting() {
        Script s = new Script("transmitting", 3000);
        s.calls("transmit() = -1; enqueue(0, 1, 0, 0) = 0; enqueue(0, 3, 0, 0) = 1; enqueue(0, 1500, 0, 0) = 2; "
                + "transmit() = 0; time() = 1; departureOf(0) = 1; transmit() = 1; time() = 2; setLinkRate(1) = 3000; "
                + "transmit() = 2; time() = 1500002; departureOf(2) = 1500002; transmit() = -1; time() = 1500002");
        // What waits is released while a packet is transmitted.
        s.calls("setLinkRate(1000) = 1").loaded("t;0<p@100,0", 2);
        s.calls("enqueue(0, 10, 0, 0) = 0; enqueue(0, 10, 0, 0) = 1; transmit() = 0; time() = 10; shaped() = 1; "
                + "transmit() = -1; dequeue() = -1; advance(85) = 0; nextRelease() = 100; advance(5) = 1; transmit() = 1; "
                + "virtualTime(0) = 100; time() = 110; enqueue(0, 500, 0, 0) = 2; enqueue(0, 1, 0, 0) = 3; "
                + "shaped() = 2; nextRelease() = 200; advance(90) = 1; nextRelease() = 5200; transmit() = 2; time() = 700");
    }

    private static void shaping() {
        Script s = new Script("shaping", 1000);
        s.loaded("t;0<p@100,0", 2);
        s.calls("advance(-1)" + ARGUMENT + "advance(-2147483648)" + ARGUMENT + "advance(0) = 0; "
                + "enqueue(0, 10, 0, 0) = 0; shaped() = 0; enqueue(0, 10, 0, 0) = 1; enqueue(0, 10, 0, 0) = 2; "
                + "shaped() = 2; nextRelease() = 100; waiting() = 3; queueLength(0) = 1; queueLength(1) = 3; "
                + "advance(99) = 0; advance(0) = 0; shaped() = 2; advance(1) = 1; shaped() = 1; nextRelease() = 200; "
                + "queueLength(0) = 2; queueRank(0, 1) = 100; advance(1000) = 1; time() = 1100; queueRank(0, 2) = 200; "
                + "nextRelease() = -1; enqueue(0, 10, 0, 0) = 3; shaped() = 0; queueRank(0, 3) = 1100; "
                + "enqueue(0, 10, 0, 0) = 4; nextRelease() = 1200");
        // The burst lets bytes through ahead of the mark.
        s.loaded("t;0<p@100,20", 2).calls("enqueue(0, 10, 0, 0) = 0; enqueue(0, 10, 0, 0) = 1; enqueue(0, 10, 0, 0) = 2; "
                + "shaped() = 0; enqueue(0, 10, 0, 0) = 3; nextRelease() = 100; enqueue(0, 10, 0, 0) = 4; "
                + "advance(2147483647) = 2; time() = 2147483647; queueRank(0, 3) = 100; queueRank(0, 4) = 200");
    }

    private static void rounding() {
        Script s = new Script("rounding", 1000);
        s.loaded("t;0<p@3,1", 2).calls("enqueue(0, 1, 0, 0) = 0; shaped() = 0; enqueue(0, 1, 0, 0) = 1; "
                + "nextRelease() = 1; advance(1) = 1; enqueue(0, 2, 0, 0) = 2; nextRelease() = 335; "
                + "enqueue(0, 1, 0, 0) = 3; advance(334) = 1; nextRelease() = 1002");
        s.loaded("t;0<p@1,9999", 2).calls("enqueue(0, 1500, 0, 0) = 0; enqueue(0, 1500, 0, 0) = 1; "
                + "enqueue(0, 1500, 0, 0) = 2; enqueue(0, 1500, 0, 0) = 3; enqueue(0, 1500, 0, 0) = 4; "
                + "enqueue(0, 1500, 0, 0) = 5; enqueue(0, 1500, 0, 0) = 6; shaped() = 0; enqueue(0, 1, 0, 0) = 7; "
                + "nextRelease() = 501000");
    }

    private static void shapersInARow() {
        Script s = new Script("shapers in a row", 1000);
        s.loaded("t*10+p;0<t@50,0;1<t@100,0", 3);
        s.calls("enqueue(0, 10, 0, 0) = 0; enqueue(0, 10, 1, 0) = 1; enqueue(0, 10, 2, 0) = 2; shaped() = 2; "
                + "nextRelease() = 100; queueLength(2) = 3; queueLength(1) = 1; queueLength(0) = 1; checkpoint() = 1; "
                + "advance(100) = 1; shaped() = 2; nextRelease() = 200; queueLength(1) = 2; queueLength(0) = 1; "
                + "advance(100) = 2; shaped() = 1; nextRelease() = 400; queueLength(1) = 3; queueLength(0) = 2; "
                + "queueRank(0, 1) = 2001; advance(200) = 1; queueRank(0, 2) = 4002; nextRelease() = -1; rollback() = 0; "
                + "advance(1000) = 4; queueRank(0, 0) = 0; queueRank(0, 1) = 2001; queueRank(0, 2) = 4002; "
                + "queueRank(1, 0) = 0; queueRank(1, 1) = 100; queueRank(1, 2) = 200");
        // Of equal release times the one that began to wait first goes first.
        s.loaded("n;0<p@100,0;0<p@100,0", 3).calls("assign(1, 2) = 1; enqueue(1, 10, 0, 0) = 0; enqueue(0, 10, 0, 0) = 1; "
                + "enqueue(1, 10, 0, 0) = 2; enqueue(0, 10, 0, 0) = 3; advance(100) = 2; queueItem(0, 0) = 2; "
                + "queueItem(0, 1) = 1; queueItem(0, 2) = 2; queueItem(0, 3) = 1");
        // An earlier release time goes first, even if it began to wait later.
        s.loaded("n;0<p@1,0;0<p@100,0", 3).calls("assign(1, 2) = 1; enqueue(0, 10, 0, 0) = 0; enqueue(0, 10, 0, 0) = 1; "
                + "enqueue(1, 10, 0, 0) = 2; enqueue(1, 10, 0, 0) = 3; nextRelease() = 100; advance(10000) = 2; "
                + "queueItem(0, 2) = 2; queueItem(0, 3) = 1");
    }

    private static void causeThatLeft() {
        Script s = new Script("cause that left", 1000);
        s.loaded("l;0<p@100,0", 2).calls("enqueue(0, 10, 5, 0) = 0; enqueue(0, 20, 1, 0) = 1; queueRank(0, 0) = 10; "
                + "dequeue() = 1; virtualTime(0) = 10; waiting() = 1; dequeue() = -1; departureIf(0) = 110; "
                + "departureIf(1)" + ARGUMENT + "advance(100) = 1; queueRank(0, 0) = 20; dequeue() = 0; "
                + "virtualTime(0) = 20; virtualTime(1) = 5");
    }

    /** 64 packets through eleven shapers, each of which holds what comes behind the first packet. */
    private static void manyReleases() {
        StringBuilder text = new StringBuilder("t");
        for (int node = 1; node < 12; node++) {
            text.append(';').append(node - 1).append("<0@").append(12 - node).append(",0");
        }
        Script s = new Script("many releases", 1000).loaded(text.toString(), 12);
        s.times(64, "enqueue(0, 1, 0, 0)");
        // Node 11 has rate 1: packet k comes from it at k * 1000, and then none of the nodes above is slower.
        s.calls("waiting() = 64; shaped() = 63; queueLength(0) = 1; nextRelease() = 1000; checkpoint() = 1; "
                + "departureIf(63) = 63001; advance(62999) = 62; advance(1) = 1; queueRank(0, 63) = 63000; rollback() = 0");
        // The other way round each node holds longer than the one below.
        text.setLength(1);
        for (int node = 1; node < 12; node++) {
            text.append(';').append(node - 1).append("<0@").append(node).append(",0");
        }
        s.loaded(text.toString(), 12);
        s.times(64, "enqueue(0, 1, 0, 0)");
        s.calls("shaped() = 63; nextRelease() = 91; checkpoint() = 1; departureIf(63) = 63001; advance(63000) = 693; "
                + "queueLength(0) = 64; queueRank(0, 63) = 63000; shaped() = 0; rollback() = 0; advance(62999) = 692; "
                + "nextRelease() = 63000");
    }
}
