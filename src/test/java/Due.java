/** What the tests share: it says each answer that is not the one due, and ends the test. */
final class Due {
    private static int wrong = 0;
    private static int asked = 0;
    private static String sentence = "";

    /** One call that may throw; its answer counts as a number (a boolean 1 or 0). */
    interface Call {
        long run();
    }

    private Due() {
    }

    /** The sentence of the document that the answers from here on are for. */
    static void sentence(String text) {
        sentence = text;
    }

    static void is(String what, long got, long due) {
        is(what, "" + got, "" + due);
    }

    static void is(String what, String got, String due) {
        asked++;
        if (!got.equals(due)) {
            wrong++;
            System.out.println("[" + sentence + "] " + what + " answered " + got + ", due is " + due);
        }
    }

    static void isTrue(String what, boolean got) {
        is(what, got ? 1 : 0, 1);
    }

    static void isThrown(String what, Class<? extends RuntimeException> due, Call call) {
        is(what, answer(call), "throws " + due.getName());
    }

    static String answer(Call call) {
        try {
            return "" + call.run();
        } catch (RuntimeException e) {
            return "throws " + e.getClass().getName();
        }
    }

    static long number(boolean answer) {
        return answer ? 1 : 0;
    }

    /** All that the calls that only look tell, so that "changes nothing" can be seen. */
    static String stateOf(SharedWire x) {
        return wireOf(x) + " | tape " + tapeOf(x);
    }

    static String wireOf(SharedWire x) {
        StringBuilder all = new StringBuilder("wire ").append(x.wire());
        for (int node = 0; node < 4; node++) {
            all.append(" | ").append(nodeOf(x, node));
        }
        return all.toString();
    }

    static String nodeOf(SharedWire x, int node) {
        StringBuilder all = new StringBuilder("node");
        for (int what = 0; what <= 6; what++) {
            all.append(' ').append(x.node(node, what));
        }
        return all.append(" received ").append(receivedOf(x, node)).toString();
    }

    static String receivedOf(SharedWire x, int node) {
        StringBuilder all = new StringBuilder();
        for (int what = 0; what <= 3; what++) {
            int asked = what;
            all.append(what == 0 ? "" : " ").append(answer(() -> x.received(node, asked)));
        }
        return all.toString();
    }

    static String tapeOf(SharedWire x) {
        StringBuilder bits = new StringBuilder();
        for (int i = 0; i < 200; i++) {
            int at = i;
            String bit = answer(() -> x.bit(at));
            if (bit.length() > 1) {
                break;
            }
            bits.append(bit);
        }
        return bits.toString();
    }

    static String levels(SharedWire x, int steps) {
        StringBuilder bits = new StringBuilder();
        for (int i = 0; i < steps; i++) {
            bits.append(x.step(1, 0));
        }
        return bits.toString();
    }

    /** In few calls, so that most of an object's 512 are left to the test. */
    static void putText(SharedWire x, String bits) {
        for (int from = 0; from < bits.length(); from += 64) {
            int n = Math.min(64, bits.length() - from);
            long w = 0;
            for (int i = n - 1; i >= 0; i--) {
                w = w << 1 | bits.charAt(from + i) - '0';
            }
            x.put(w, n);
        }
    }

    static void end() {
        System.out.println(wrong + " of " + asked + " answers are not as due");
        if (wrong != 0 || asked == 0) {
            System.exit(1);
        }
    }
}
