/** Two objects that should be in the same state: whatever is called on both, they must answer the same. */
final class Twins {
    private static final int STEPS = 8;
    private static final String[] AHEAD = {"rankIf(0, 77, 3, 50)", "rankIf(1, 1, 9, 0)", "rankIf(15, 1500, 0, 1000000)",
        "peek(0)", "peek(1)", "peek(5)", "peek(63)", "nextRelease()"};

    private final String name;
    private final SchedulerTree one;
    private final SchedulerTree other;

    private Twins(String name, SchedulerTree one, SchedulerTree other) {
        this.name = name;
        this.one = one;
        this.other = other;
    }

    static void compare(String name, SchedulerTree one, SchedulerTree other) {
        Twins twins = new Twins(name + ", twins", one, other);
        twins.goOn();
        // The text is known by the tree that it describes, a checkpoint by what it brings back.
        twins.call("checkpoint()");
        twins.call("loadTree()");
        twins.goOn();
        for (int i = 0; i < 4; i++) {
            twins.call("errorPosition(" + i + ")");
            twins.call("clearText()");
        }
        for (int i = 0; i < 4; i++) {
            twins.call("rollback()");
            twins.goOn();
        }
    }

    private void call(String call) {
        Script.due(name + ": " + call, Script.answer(one, call), Script.answer(other, call));
    }

    private void askEverything() {
        Script.due(name + ": everything", Script.everything(one, false), Script.everything(other, false));
    }

    private void goOn() {
        askEverything();
        for (String call : AHEAD) {
            call(call);
        }
        for (int step = 0; step < STEPS; step++) {
            call("enqueue(" + 5 * step % 16 + ", " + (1 + 37 * step) + ", " + 3 * step % 10 + ", " + 9 * step + ")");
            call("departureIf(" + step + ")");
            call(step % 2 == 0 ? "transmit()" : "dequeue()");
            long units = Math.max(0, one.nextRelease() - one.time());
            call("advance(" + Math.min(1000000, units) + ")");
            askEverything();
        }
    }
}
