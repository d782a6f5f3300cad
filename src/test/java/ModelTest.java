import java.util.Random;

/** All promises: long runs of calls, the same ones each time, on the program and on the model. */
public final class ModelTest {
    private static final int RUNS = 500;
    /** Of an object's 512 calls so many are left for the look at all of it at the end. */
    private static final int CALLS = 512 - 46 - 201;
    private static final String NONE = "throws java.util.NoSuchElementException";

    private final Random random;
    private final SharedWire x = new SharedWire();
    private final Model model = new Model();
    private final int run;
    private final int disturbance;
    private int calls = 0;

    private ModelTest(int run) {
        this.run = run;
        random = new Random(run);
        disturbance = run % 4;
    }

    public static void main(String[] args) {
        int[] events = new int[8];
        for (int run = 0; run < RUNS; run++) {
            ModelTest test = new ModelTest(run);
            test.calls();
            test.count(events);
        }
        String[] names = {"", "fault 1", "fault 2", "fault 3", "fault 4", "fault 5", "losses", "off"};
        for (int i = 1; i < events.length; i++) {
            Due.isTrue("the runs have " + names[i], events[i] > 0);
        }
        System.out.println("faults, losses, off: " + java.util.Arrays.toString(events));
        Due.end();
    }

    private void count(int[] events) {
        for (int fault = 1; fault <= 5; fault++) {
            events[fault] += model.faults[fault];
        }
        events[6] += model.losses;
        for (Model.Node node : model.nodes) {
            events[7] += node.on ? 0 : 1;
        }
    }

    private void calls() {
        if (run % 5 == 0) {
            callManyFaults();
        }
        while (calls + 3 <= CALLS) {
            int kind = random.nextInt(10);
            if (kind < 2) {
                callWant();
            } else if (kind < 8) {
                callStep();
            } else if (kind < 9) {
                callTape();
            } else if (random.nextInt(8) == 0) {
                callJoin();
            }
            calls++;
            look();
        }
        compare();
    }

    /** Brings some nodes near to off, or to it: each begins so often and does not see its first bit. */
    private void callManyFaults() {
        int nodes = 1 + random.nextInt(15);
        for (int node = 0; node < 4; node++) {
            if ((nodes >> node & 1) == 1) {
                want(node, random.nextBoolean(), 1000 + node, -1, 1);
                calls++;
            }
        }
        int times = 28 + random.nextInt(6);
        for (int i = 0; i < times; i++) {
            step(18, nodes);
            calls++;
        }
    }

    private int someIdentifier(boolean isLong) {
        int high = random.nextInt(3) == 0 ? random.nextInt(2048) : 1 << random.nextInt(11);
        if (!isLong) {
            return high;
        }
        return high << 18 | (random.nextBoolean() ? random.nextInt(1 << 18) : 1 << random.nextInt(18));
    }

    private long someData() {
        switch (random.nextInt(3)) {
            case 0: return random.nextLong();
            case 1: return 0;
            default: return -1;
        }
    }

    private void callWant() {
        boolean isLong = random.nextBoolean();
        want(random.nextInt(4), isLong, someIdentifier(isLong), someData(), random.nextInt(9));
    }

    private void want(int node, boolean isLong, int identifier, long data, int n) {
        Model.Node who = model.nodes[node];
        String due = "throws java.lang.UnsupportedOperationException";
        if (who.wants.size() < 4) {
            who.wants.add(new Model.Want(isLong, identifier, data, n));
            due = "" + who.wants.size();
        }
        Due.is("run " + run + " want", Due.answer(() -> x.want(node, isLong, identifier, data, n)), due);
    }

    private void callStep() {
        int steps = random.nextInt(3) == 0 ? 1 + random.nextInt(80) : 1 + random.nextInt(4);
        boolean some = disturbance > 0 && random.nextInt(disturbance * 3) == 0;
        step(steps, some ? 1 << random.nextInt(4) | random.nextInt(16) & random.nextInt(16) : 0);
    }

    private void step(int steps, int disturbed) {
        int level = 0;
        for (int i = 0; i < steps; i++) {
            level = model.step(i == 0 ? disturbed : 0);
        }
        Due.is("run " + run + " step(" + steps + ", " + disturbed + ")", x.step(steps, disturbed), level);
    }

    private void callJoin() {
        int node = random.nextInt(4);
        Model.Node who = model.nodes[node];
        boolean due = !who.on;
        if (due) {
            who.on = true;
            who.sending = 0;
            who.receiving = 0;
        }
        Due.is("run " + run + " join", Due.number(x.join(node)), Due.number(due));
    }

    private void callTape() {
        switch (random.nextInt(6)) {
            case 0:
                callPut();
                break;
            case 1:
            case 2:
                callFlip();
                break;
            case 3:
                if (random.nextInt(4) == 0) {
                    Due.is("run " + run + " wipe", x.wipe(), model.tape.length());
                    model.tape = "";
                }
                break;
            default:
                callTapeOf(random.nextInt(4));
        }
    }

    private void callTapeOf(int node) {
        Model.Want offered = model.nodes[node].offers();
        String due = NONE;
        if (offered != null) {
            model.tape = Model.line(offered)[0];
            due = "" + model.tape.length();
        }
        Due.is("run " + run + " tape", Due.answer(() -> x.tape(node)), due);
    }

    private void callPut() {
        long w = someData();
        int n = random.nextInt(67) - 1;
        boolean fits = n >= 1 && n <= 64 && model.tape.length() + n <= 200;
        if (fits) {
            model.tape += new StringBuilder(Model.number(w, n)).reverse();
        }
        Due.is("run " + run + " put", Due.number(x.put(w, n)), Due.number(fits));
    }

    private void callFlip() {
        if (model.tape.isEmpty()) {
            return;
        }
        int i = random.nextInt(model.tape.length());
        char other = model.tape.charAt(i) == '0' ? '1' : '0';
        model.tape = model.tape.substring(0, i) + other + model.tape.substring(i + 1);
        x.flip(i);
    }

    /** One call that only looks, at something that is likely to have changed. */
    private void look() {
        String where = "run " + run + " behind call " + calls + " ";
        int node = random.nextInt(4);
        switch (random.nextInt(6)) {
            case 0:
                Due.is(where + "wire()", x.wire(), model.wire);
                break;
            case 1:
                Due.is(where + "read()", x.read(), model.read());
                break;
            case 2:
                Due.is(where + "last fault", x.node(node, 6), model.nodes[node].lastFault);
                break;
            case 3:
                Due.is(where + "received", x.node(node, 5), model.nodes[node].received);
                break;
            default:
                Due.is(where + "role", x.node(node, 0), model.nodes[node].role());
        }
        calls++;
    }

    private void compare() {
        String where = "run " + run + " at last ";
        Due.is(where + "wire()", x.wire(), model.wire);
        Due.is(where + "read()", x.read(), model.read());
        for (int node = 0; node < 4; node++) {
            Due.is(where + "node " + node, Due.nodeOf(x, node), told(model.nodes[node]));
        }
        Due.is(where + "tape", Due.tapeOf(x), model.tape);
    }

    private static String told(Model.Node node) {
        String counts = "node " + node.role() + " " + node.sending + " " + node.receiving + " " + node.wants.size()
            + " " + node.sent + " " + node.received + " " + node.lastFault;
        Model.Want last = node.last;
        if (last == null) {
            return counts + " received " + NONE + " " + NONE + " " + NONE + " " + NONE;
        }
        return counts + " received " + last.identifier() + " " + (last.isLong() ? 1 : 0) + " " + last.n() + " "
            + last.data();
    }
}
