import java.util.Random;

/** Random runs of calls: the class and the model must answer the same. The seeds are fixed. */
final class ModelTest {
    private static final int RUNS = 1500;
    private static final int CALLS = 512;
    private static final String[] ODD = {"-1", "16", "12", "2147483647", "-2147483648", "500", "64"};

    private final Random random;
    private final int run;
    private final SchedulerTree tree;
    private final Model model;
    private int calls = 0;

    private ModelTest(int run) {
        this.run = run;
        random = new Random(run);
        int rate = random.nextInt(4) == 0 ? random.nextInt(12000) - 1000 : 500 + random.nextInt(3000);
        tree = new SchedulerTree(rate);
        model = new Model(rate);
    }

    public static void main(String[] args) {
        for (int run = 0; run < RUNS; run++) {
            new ModelTest(run).play();
        }
        Script.end();
    }

    private void play() {
        if (random.nextInt(3) == 0) {
            call("loadTemplate", random.nextInt(6));
        } else {
            load(text());
        }
        // Some runs enqueue more than leaves, so that the limits are met; some load often.
        int pushing = 20 + random.nextInt(50);
        int loading = random.nextInt(4) == 0 ? 20 : 1;
        for (int i = 0; i < CALLS; i++) {
            step(pushing, loading);
        }
    }

    private void step(int pushing, int loading) {
        int kind = random.nextInt(100 + pushing + loading);
        if (kind < pushing) {
            call("enqueue", number(16), size(), number(10), slack());
        } else if (kind < pushing + 12) {
            call("transmit");
        } else if (kind < pushing + 22) {
            call("dequeue");
        } else if (kind < pushing + 32) {
            call("advance", random.nextInt(8) == 0 ? size() * 100 : random.nextInt(60));
        } else if (kind < pushing + 42) {
            call("assign", number(16), number(Math.max(1, tree.nodes())));
        } else if (kind < pushing + 47) {
            change();
        } else if (kind < pushing + 52) {
            call(new String[] {"checkpoint", "rollback", "commit"}[random.nextInt(3)]);
        } else if (kind < pushing + 70) {
            lookAhead();
        } else if (kind < pushing + 100) {
            ask();
        } else if (random.nextInt(6) == 0) {
            call("loadTemplate", number(6));
        } else {
            load(text());
        }
        call("fingerprint");
        call("errorPosition", number(4));
    }

    private void change() {
        switch (random.nextInt(4)) {
            case 0 -> call("setLinkRate", 1 + random.nextInt(10100) - 50);
            case 1 -> call("setNodeWeight", number(Math.max(1, tree.nodes())), 1 + number(100));
            default -> call("setFlowWeight", number(16), 1 + number(100));
        }
    }

    private void lookAhead() {
        switch (random.nextInt(3)) {
            case 0 -> call("peek", number(30));
            case 1 -> call("departureIf", number(120));
            default -> call("rankIf", number(16), size(), number(10), slack());
        }
    }

    private void ask() {
        int node = number(Math.max(1, tree.nodes()));
        String[] nodeAsks = {"parentOf", "children", "tieRule", "queueLength", "virtualTime"};
        String[] flowAsks = {"leafOf", "sent", "sentBytes", "totalDelay", "greatestDelay", "missed", "share"};
        String[] packetAsks = {"flowOf", "deadlineOf", "departureOf"};
        String[] plainAsks = {"nodes", "time", "nextRelease", "shaped", "waiting"};
        switch (random.nextInt(6)) {
            case 0 -> call(nodeAsks[random.nextInt(nodeAsks.length)], node);
            case 1 -> call(flowAsks[random.nextInt(flowAsks.length)], number(16));
            case 2 -> call(packetAsks[random.nextInt(packetAsks.length)], number(100));
            case 3 -> call(plainAsks[random.nextInt(plainAsks.length)]);
            case 4 -> call("state", node, number(16));
            default -> call(random.nextBoolean() ? "queueItem" : "queueRank", node, number(20));
        }
    }

    private void load(String text) {
        if (random.nextInt(5) > 0) {
            call("clearText");
        }
        for (int i = 0; i < text.length(); i++) {
            call("type", text.charAt(i));
        }
        call("loadTree");
    }

    private void call(String method, int... arguments) {
        StringBuilder call = new StringBuilder(method).append('(');
        for (int i = 0; i < arguments.length; i++) {
            call.append(i == 0 ? "" : ", ").append(arguments[i]);
        }
        call.append(')');
        calls++;
        String where = "run " + run + ", call " + calls + ": " + call;
        Script.due(where, Script.answer(tree, call.toString()), Script.answer(model, call.toString()));
    }

    private int number(int below) {
        return random.nextInt(25) == 0 ? Integer.parseInt(ODD[random.nextInt(ODD.length)]) : random.nextInt(below);
    }

    private int size() {
        return random.nextInt(25) == 0 ? 1499 + random.nextInt(3) : random.nextInt(20) == 0 ? number(3) : 1 + 10 * random.nextInt(20);
    }

    private int slack() {
        return random.nextInt(40) == 0 ? 999999 + random.nextInt(3) : number(500);
    }

    // ---- texts

    private String text() {
        StringBuilder text = new StringBuilder(program());
        int nodes = random.nextInt(3) == 0 ? 14 : 1 + random.nextInt(5);
        for (int node = 1; node < nodes && text.length() < 110; node++) {
            int parent = random.nextInt(40) == 0 ? node : random.nextInt(node);
            text.append(';').append(random.nextInt(30) == 0 ? "0" : "").append(parent).append('<').append(program());
            if (random.nextInt(3) == 0) {
                text.append('@').append(shaperNumber()).append(',').append(shaperNumber());
            }
            text.append(new String[] {"", "", "^", "%", "&"}[random.nextInt(5)]);
        }
        if (random.nextInt(3) == 0 && text.length() > 0) {
            spoil(text);
        }
        return text.substring(0, Math.min(120, text.length()));
    }

    private void spoil(StringBuilder text) {
        String signs = "0123456789pldfwatvnrMm()+-*/,;:@<^%& xX~G.";
        int place = random.nextInt(text.length());
        char sign = signs.charAt(random.nextInt(signs.length()));
        switch (random.nextInt(3)) {
            case 0 -> text.insert(place, sign);
            case 1 -> text.setCharAt(place, sign);
            default -> text.deleteCharAt(place);
        }
    }

    private String shaperNumber() {
        return String.valueOf(random.nextInt(30) == 0 ? random.nextInt(12000) : random.nextInt(4) == 0 ? random.nextInt(7) : random.nextInt(700));
    }

    private String program() {
        String rank = sum(0).replace("r", "p");
        return random.nextInt(3) == 0 ? rank + ":" + sum(0) : rank;
    }

    private String sum(int depth) {
        StringBuilder sum = new StringBuilder(factor(depth));
        for (int more = random.nextInt(3); more > 0; more--) {
            sum.append("+-*/".charAt(random.nextInt(4))).append(factor(depth));
        }
        return sum.toString();
    }

    private String factor(int depth) {
        int kind = random.nextInt(depth > 2 ? 7 : 12);
        if (kind < 5) {
            return String.valueOf("pldfwatvnr".charAt(random.nextInt(10)));
        }
        if (kind < 7) {
            return String.valueOf(random.nextInt(20) == 0 ? random.nextInt(1500000) : random.nextInt(12));
        }
        if (kind < 8) {
            return "-" + factor(depth + 1);
        }
        if (kind < 10) {
            return "(" + sum(depth + 1) + ")";
        }
        return (kind == 10 ? "M(" : "m(") + sum(depth + 1) + "," + sum(depth + 1) + ")";
    }
}
