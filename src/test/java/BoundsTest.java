import java.util.ArrayList;
import java.util.List;

/**
 * Every call with every pair of arguments at or next to a bound of the document, in three states: the model
 * must answer the same, and a call that throws changes nothing.
 */
final class BoundsTest {
    private static final int LEAST = Integer.MIN_VALUE;
    private static final int MOST = Integer.MAX_VALUE;
    private static final int[] ANY = {LEAST, -1, 0, 1, 2, 3, 5, 6, 9, 10, 11, 12, 13, 15, 16, 31, 32, 63, 64, 65, 99, 100, 101,
        126, 127, 499, 500, 501, 1499, 1500, 1501, 9998, 9999, 10000, 65584, 999999, 1000000, 1000001, MOST};
    private static final int[][] PACKET = {{LEAST, -1, 0, 1, 15, 16, MOST}, {LEAST, -1, 0, 1, 1500, 1501, MOST},
        {LEAST, -1, 0, 9, 10, MOST}, {LEAST, -1, 0, 1000000, 1000001, MOST}};
    private static final String[] ONE = {"type", "loadTemplate", "errorPosition", "parentOf", "children", "tieRule", "leafOf",
        "setLinkRate", "advance", "queueLength", "virtualTime", "peek", "departureIf", "flowOf", "deadlineOf", "departureOf",
        "sent", "sentBytes", "totalDelay", "greatestDelay", "missed", "share"};
    private static final String[] TWO = {"setFlowWeight", "setNodeWeight", "assign", "queueItem", "queueRank", "state"};
    private static final String[] FOUR = {"enqueue", "rankIf"};

    private final String name;
    private final SchedulerTree tree = new SchedulerTree(1000);
    private final Model model = new Model(1000);

    private BoundsTest(String name, String... calls) {
        this.name = name;
        for (String call : calls) {
            Script.due(name + ": " + call, Script.answer(tree, call), Script.answer(model, call));
        }
    }

    public static void main(String[] args) {
        new BoundsTest("a new object").callAll();
        new BoundsTest("a tree with packets", some()).callAll();
        new BoundsTest("twelve nodes, all full", full()).callAll();
        Script.end();
    }

    private static String[] some() {
        return new String[] {"loadTemplate(5)", "assign(1, 2)", "enqueue(0, 900, 3, 9)", "enqueue(0, 900, 3, 9)",
            "enqueue(1, 5, 9, 100)", "enqueue(1, 5, 9, 100)", "transmit()", "enqueue(15, 1500, 0, 1000000)"};
    }

    private static String[] full() {
        List<String> calls = new ArrayList<>();
        "M(v,a):r+l;0<p;1<n@9,0^;0<a:r+1;3<d;0<l%;0<0;0<t;0<p&;0<f;0<w;0<v".chars().forEach(c -> calls.add("type(" + c + ")"));
        calls.add("loadTree()");
        for (int packet = 0; packet < 64; packet++) {
            calls.add("assign(" + packet % 16 + ", " + (2 + packet % 10) + ")");
            calls.add("enqueue(" + packet % 16 + ", " + (1 + packet) + ", " + packet % 10 + ", " + packet + ")");
        }
        for (int c = 0; c < 120; c++) {
            calls.add("type(45)");
        }
        return calls.toArray(new String[0]);
    }

    private void callAll() {
        for (int x : ANY) {
            for (String method : ONE) {
                call(method + "(" + x + ")");
            }
            for (int y : ANY) {
                for (String method : TWO) {
                    call(method + "(" + x + ", " + y + ")");
                }
            }
        }
        for (int flow : PACKET[0]) {
            for (int length : PACKET[1]) {
                for (int priority : PACKET[2]) {
                    for (int slack : PACKET[3]) {
                        for (String method : FOUR) {
                            call(method + "(" + flow + ", " + length + ", " + priority + ", " + slack + ")");
                        }
                    }
                }
            }
        }
    }

    /** The checkpoint makes every call meet the same state; only the text may grow. */
    private void call(String call) {
        String where = name + ": " + call;
        tree.checkpoint();
        model.checkpoint();
        String before = Script.everything(tree, true);
        String got = Script.answer(tree, call);
        Script.due(where, got, Script.answer(model, call));
        if (got.startsWith("throws ")) {
            Script.due(where + ", everything behind it", Script.everything(tree, true), before);
        }
        Script.due(where + ", then fingerprint()", tree.fingerprint(), model.fingerprint());
        Script.due(where + ", then rollback()", tree.rollback(), model.rollback());
    }
}
