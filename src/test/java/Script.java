import java.lang.reflect.InvocationTargetException;
import java.lang.reflect.Method;
import java.util.ArrayList;
import java.util.Arrays;
import java.util.List;
import java.util.Set;

/**
 * A run of calls on one object, written as in the document: "enqueue(0, 5, 0, 0) = 0; time() = 0;
 * rollback() = throws IllegalStateException". Around each call that throws or only asks, everything
 * that can be asked is compared, so that such a call is seen to change nothing. What cannot be asked is
 * seen at the end: a twin, on which these calls were not made, must go on like the object itself.
 */
final class Script {
    private static final Set<String> CHANGING = Set.of("type", "clearText", "loadTree", "loadTemplate",
            "setFlowWeight", "setNodeWeight", "assign", "setLinkRate", "enqueue", "dequeue", "transmit",
            "advance", "checkpoint", "rollback", "commit");
    private static final List<Script> ALL = new ArrayList<>();
    private static int wrong = 0;

    final SchedulerTree tree;
    private final SchedulerTree twin;
    private final String name;

    Script(String name, int linkRate) {
        this.name = name;
        this.tree = new SchedulerTree(linkRate);
        this.twin = new SchedulerTree(linkRate);
        ALL.add(this);
    }

    /** Ends the test's program, with exit code 1 if an answer was not the one that is due. */
    static void end() {
        for (Script script : ALL) {
            Twins.compare(script.name, script.tree, script.twin);
        }
        System.out.println(wrong == 0 ? "all answers are as due" : wrong + " answers are not as due");
        if (wrong != 0) {
            System.exit(1);
        }
    }

    static void due(String what, Object got, Object want) {
        if (!String.valueOf(got).equals(String.valueOf(want))) {
            wrong++;
            System.out.println(what + " answered " + got + ", due is " + want);
        }
    }

    Script calls(String calls) {
        for (String row : calls.split(";")) {
            if (!row.isBlank()) {
                int sign = row.indexOf('=');
                String call = row.substring(0, sign).trim();
                checkCall(call, row.substring(sign + 1).trim());
            }
        }
        return this;
    }

    /** Makes calls again and again, none of which may throw; their answers are not looked at. */
    Script times(int times, String... calls) {
        for (int i = 0; i < times; i++) {
            for (String call : calls) {
                String got = answer(tree, call);
                due(name + ": throws of " + call, got.startsWith("throws "), false);
                due(name + ": " + call + " of the twin", answer(twin, call), got);
            }
        }
        return this;
    }

    /** Makes a text stand alone in the buffer. */
    Script typed(String text) {
        tree.clearText();
        twin.clearText();
        for (int i = 0; i < text.length(); i++) {
            twin.type(text.charAt(i));
            due(name + ": type of sign " + i + " of " + text, tree.type(text.charAt(i)), i + 1);
        }
        return this;
    }

    Script loaded(String text, int nodes) {
        typed(text);
        twin.loadTree();
        due(name + ": loadTree() of " + text, tree.loadTree(), nodes);
        due(name + ": text behind loadTree() of " + text, tree.clearText(), 0);
        return errors(text, -1, -1, -1);
    }

    Script refused(String text, int... chain) {
        typed(text);
        String before = everything(tree, false);
        due(name + ": loadTree() of " + text, tree.loadTree(), -1 - chain[chain.length - 1]);
        due(name + ": all but the errors behind loadTree() of " + text, everything(tree, false), before);
        due(name + ": text behind loadTree() of " + text, tree.clearText(), text.length());
        twin.clearText();
        return errors(text, chain[0], chain[1], chain.length > 2 ? chain[2] : -1);
    }

    private Script errors(String text, int first, int second, int third) {
        due(name + ": errorPosition(0) of " + text, tree.errorPosition(0), first);
        due(name + ": errorPosition(1) of " + text, tree.errorPosition(1), second);
        due(name + ": errorPosition(2) of " + text, tree.errorPosition(2), third);
        due(name + ": errorPosition(3) of " + text, tree.errorPosition(3), -1);
        return this;
    }

    private void checkCall(String call, String want) {
        String before = everything(tree, true);
        String got = answer(tree, call);
        due(name + ": " + call, got, want);
        String method = call.substring(0, call.indexOf('('));
        boolean nothingLeft = (method.equals("dequeue") || method.equals("transmit")) && got.equals("-1");
        if (got.startsWith("throws ") || nothingLeft || !CHANGING.contains(method)) {
            due(name + ": everything behind " + call, everything(tree, true), before);
        } else {
            due(name + ": " + call + " of the twin", answer(twin, call), got);
        }
    }

    /** The answer as a text; an exception as "throws" and its very class. */
    static String answer(Object object, String call) {
        String method = call.substring(0, call.indexOf('('));
        String inside = call.substring(call.indexOf('(') + 1, call.lastIndexOf(')')).trim();
        String[] words = inside.isEmpty() ? new String[0] : inside.split(",");
        Object[] arguments = new Object[words.length];
        Class<?>[] types = new Class<?>[words.length];
        for (int i = 0; i < words.length; i++) {
            arguments[i] = Integer.parseInt(words[i].trim());
            types[i] = int.class;
        }
        try {
            Method found = object.getClass().getDeclaredMethod(method, types);
            found.setAccessible(true);
            return String.valueOf(found.invoke(object, arguments));
        } catch (InvocationTargetException e) {
            return "throws " + e.getCause().getClass().getSimpleName();
        } catch (ReflectiveOperationException e) {
            throw new AssertionError(call, e);
        }
    }

    /** All that can be asked of an object, and what the setters tell of it. */
    static String everything(SchedulerTree x, boolean errorsToo) {
        List<Object> all = new ArrayList<>(Arrays.asList("time", x.time(), x.nextRelease(), x.shaped(), x.waiting()));
        for (int node = 0; node < x.nodes(); node++) {
            addNode(all, x, node);
        }
        for (int flow = 0; flow < 16; flow++) {
            addFlow(all, x, flow);
        }
        addPackets(all, x);
        int rate = x.setLinkRate(1);
        x.setLinkRate(rate);
        all.addAll(Arrays.asList("rate", rate, "print", x.fingerprint(), "kept", countKept(x)));
        for (int i = 0; errorsToo && i < 4; i++) {
            all.add(x.errorPosition(i));
        }
        return all.toString();
    }

    private static void addNode(List<Object> all, SchedulerTree x, int node) {
        int weight = x.setNodeWeight(node, 1);
        x.setNodeWeight(node, weight);
        all.addAll(Arrays.asList("node", x.parentOf(node), x.children(node), x.tieRule(node), weight,
                x.virtualTime(node), x.queueLength(node)));
        for (int i = 0; i < x.queueLength(node); i++) {
            all.addAll(Arrays.asList(x.queueItem(node, i), x.queueRank(node, i)));
        }
        for (int key = 0; key < 16; key++) {
            if (x.children(node) == 0 || key < x.nodes() && x.parentOf(key) == node) {
                all.add(x.state(node, key));
            }
        }
    }

    private static void addFlow(List<Object> all, SchedulerTree x, int flow) {
        int weight = x.setFlowWeight(flow, 1);
        x.setFlowWeight(flow, weight);
        all.addAll(Arrays.asList("flow", x.leafOf(flow), weight, x.sent(flow), x.sentBytes(flow), x.totalDelay(flow),
                x.greatestDelay(flow), x.missed(flow), x.share(flow)));
    }

    private static void addPackets(List<Object> all, SchedulerTree x) {
        try {
            for (int packet = 0; packet <= 500; packet++) {
                all.addAll(Arrays.asList(x.flowOf(packet), x.deadlineOf(packet), x.departureOf(packet)));
            }
        } catch (IndexOutOfBoundsException e) {
            all.add("packets end");
        }
    }

    private static int countKept(SchedulerTree x) {
        try {
            x.checkpoint();
            return x.commit();
        } catch (IllegalStateException e) {
            return 3;
        }
    }
}
