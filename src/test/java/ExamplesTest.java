/** The five examples of the document. */
final class ExamplesTest {
    public static void main(String[] args) {
        new Script("example 1", 1000).calls("loadTemplate(1) = 1; enqueue(0, 100, 5, 0) = 0; "
                + "enqueue(1, 200, 2, 0) = 1; enqueue(2, 300, 5, 0) = 2; peek(1) = 0; transmit() = 1; "
                + "time() = 200; departureIf(2) = 600; queueRank(0, 0) = 5");
        new Script("example 2", 100).calls("loadTemplate(3) = 1; setFlowWeight(1, 4) = 1; "
                + "enqueue(0, 100, 0, 0) = 0; enqueue(0, 100, 0, 0) = 1; enqueue(1, 100, 0, 0) = 2; "
                + "enqueue(1, 100, 0, 0) = 3; peek(1) = 2; peek(2) = 3; peek(3) = 1; state(0, 1) = 50");
        new Script("example 3", 1000).calls("loadTemplate(5) = 4; enqueue(0, 400, 3, 0) = 0; "
                + "enqueue(0, 400, 1, 0) = 1; shaped() = 0; nextRelease() = -1; dequeue() = 1; dequeue() = 0; "
                + "advance(3500) = 0; dequeue() = -1");
        new Script("example 4", 10).calls("type(48) = 1; type(59) = 2; type(48) = 3; type(60) = 4; "
                + "type(112) = 5; type(43) = 6; loadTree() = -7; errorPosition(0) = 2; errorPosition(1) = 4; "
                + "errorPosition(2) = 6; errorPosition(3) = -1");
        new Script("example 5", 10).calls("dequeue() = -1; enqueue(0, 1501, 0, 0) = throws IllegalArgumentException; "
                + "checkpoint() = 1; enqueue(0, 5, 0, 0) = 0; rollback() = 0; waiting() = 0; "
                + "rollback() = throws IllegalStateException");
        Script.end();
    }
}
