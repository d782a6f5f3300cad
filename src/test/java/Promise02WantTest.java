import java.util.function.ToLongFunction;

/** Promise 2: want. What is taken is looked at as it is received, not only as it is counted. */
public final class Promise02WantTest {
    private static final int LONGEST = Lines.LONGEST_IDENTIFIER;
    private static final long MIXED = 0x8877665544332211L;

    public static void main(String[] args) {
        nodesAre0To3();
        shortIdentifiersAre0To2047();
        longIdentifiersAre29Bits();
        bytesAre0To8();
        answersHowMany();
        thereAreAtMost4();
        oneThatIsBeingSentCounts();
        thereIsRoomAgainBehindEachSent();
        dataAreTheLowestBytes();
        dataAboveDoNotMatter();
        offNodesMayWant();
        wantedAtAnyTime();
        theFirstNamedIsThrown();
        Due.end();
    }

    private static void takes(int node, boolean isLong, int identifier, long data, int n) {
        SharedWire x = new SharedWire();
        String what = "want(" + node + ", " + isLong + ", " + identifier + ", " + data + ", " + n + ")";
        Due.is(what, x.want(node, isLong, identifier, data, n), 1);
        Due.is(what + ", wanted", x.node(node, 3), 1);
        x.step(200, 0);
        Due.is(what + ", received", Due.receivedOf(x, (node + 1) % 4), Lines.frame(isLong, identifier, data, n));
    }

    private static void refuses(Class<? extends RuntimeException> due, int node, boolean isLong, int identifier,
            int n) {
        String what = "want(" + node + ", " + isLong + ", " + identifier + ", -1, " + n + ")";
        Twins.refusedAlways(what, due, x -> x.want(node, isLong, identifier, -1, n));
    }

    private static void nodesAre0To3() {
        Due.sentence("Promise 2: IndexOutOfBoundsException: there is no such node (0 .. 3)");
        takes(0, false, 1, 0, 0);
        takes(3, false, 1, 0, 0);
        refuses(IndexOutOfBoundsException.class, -1, false, 1, 0);
        refuses(IndexOutOfBoundsException.class, 4, false, 1, 0);
        for (int far : Twins.FAR) {
            refuses(IndexOutOfBoundsException.class, far, true, 1, 8);
        }
    }

    private static void shortIdentifiersAre0To2047() {
        Due.sentence("Promise 2: IllegalArgumentException when the identifier is not as said: short, 0 .. 2047");
        takes(0, false, 0, 0, 1);
        takes(0, false, 1, 0, 1);
        takes(0, false, 2046, 0, 1);
        takes(0, false, 2047, 0, 1);
        refuses(IllegalArgumentException.class, 0, false, -1, 1);
        refuses(IllegalArgumentException.class, 0, false, 2048, 1);
        refuses(IllegalArgumentException.class, 0, false, LONGEST, 1);
        for (int far : Twins.FAR) {
            refuses(IllegalArgumentException.class, 0, false, far, 1);
        }
    }

    private static void longIdentifiersAre29Bits() {
        Due.sentence("Promise 2: IllegalArgumentException when the identifier is not as said: long, 0 .. 2^29 - 1");
        takes(1, true, 0, 0, 1);
        takes(1, true, 2047, 0, 1);
        takes(1, true, 2048, 0, 1);
        takes(1, true, LONGEST, 0, 1);
        refuses(IllegalArgumentException.class, 1, true, -1, 1);
        refuses(IllegalArgumentException.class, 1, true, LONGEST + 1, 1);
        for (int far : Twins.FAR) {
            refuses(IllegalArgumentException.class, 1, true, far, 1);
        }
    }

    private static void bytesAre0To8() {
        Due.sentence("Promise 2: IllegalArgumentException when n is not 0 .. 8");
        for (int n = 0; n <= 8; n++) {
            takes(2, false, 77, MIXED, n);
            takes(2, true, 77 << 18 | 7, MIXED, n);
        }
        refuses(IllegalArgumentException.class, 2, false, 77, -1);
        refuses(IllegalArgumentException.class, 2, true, 77, -1);
        refuses(IllegalArgumentException.class, 2, false, 77, 9);
        refuses(IllegalArgumentException.class, 2, true, 77, 9);
        for (int far : Twins.FAR) {
            refuses(IllegalArgumentException.class, 2, false, 77, far);
        }
    }

    private static SharedWire full(int node) {
        SharedWire x = new SharedWire();
        for (int i = 0; i < 4; i++) {
            x.want(node, false, 0, i, 1);
        }
        return x;
    }

    private static void answersHowMany() {
        Due.sentence("Promise 2: how many it wants to");
        SharedWire x = new SharedWire();
        for (int i = 1; i <= 4; i++) {
            Due.is("the same one, time " + i, x.want(3, false, 9, 0, 0), i);
            Due.is("node(3, 3)", x.node(3, 3), i);
        }
        Due.is("of another node", x.want(2, false, 9, 0, 0), 1);
        Due.is("of all", Lines.ofAll(x, 3), "0 0 1 4");
    }

    private static void thereAreAtMost4() {
        Due.sentence("Promise 2: UnsupportedOperationException when there are 4");
        for (int node = 0; node < 4; node++) {
            int who = node;
            Twins.refused("the fifth of node " + node, UnsupportedOperationException.class, () -> full(who),
                x -> x.want(who, false, 0, 0, 0));
            SharedWire y = full(who);
            Due.is("another node may", y.want((who + 1) % 4, false, 0, 0, 0), 1);
        }
        SharedWire three = new SharedWire();
        for (int i = 0; i < 3; i++) {
            three.want(0, true, i, 0, 0);
        }
        Due.is("the fourth", three.want(0, true, 0, 0, 0), 4);
    }

    private static SharedWire fullBehind(int steps) {
        SharedWire x = full(0);
        x.step(steps, 0);
        return x;
    }

    private static void oneThatIsBeingSentCounts() {
        Due.sentence("Promise 2: UnsupportedOperationException when there are 4, one that is being sent counted");
        int length = full(0).tape(0);
        Twins.refused("with its first bit", UnsupportedOperationException.class, () -> fullBehind(1),
            x -> x.want(0, false, 0, 0, 0));
        Twins.refused("before its last bit", UnsupportedOperationException.class, () -> fullBehind(length - 1),
            x -> x.want(0, false, 0, 0, 0));
        SharedWire x = fullBehind(length);
        Due.is("behind its last bit", x.want(0, false, 0, 0, 0), 4);
    }

    private static void thereIsRoomAgainBehindEachSent() {
        Due.sentence("Promise 2: there is room for one more behind each that is sent, and for no other");
        SharedWire x = new SharedWire();
        for (int i = 1; i <= 4; i++) {
            x.want(0, false, i, i, 1);
        }
        for (int i = 1; i <= 12; i++) {
            stepUntilReceived(x, i);
            Due.is("frame " + i, Due.receivedOf(x, 1), i + " 0 1 " + i);
            int next = i + 4;
            Due.is("want behind frame " + i, x.want(0, false, next, next, 1), 4);
            Due.isThrown("one more", UnsupportedOperationException.class, () -> x.want(0, false, 0, 0, 0));
        }
    }

    private static void stepUntilReceived(SharedWire x, int frames) {
        for (int i = 0; i < 20 && x.node(1, 5) < frames; i++) {
            x.step(6, 0);
        }
    }

    private static void dataAreTheLowestBytes() {
        Due.sentence("Promise 2: the data are the lowest n bytes of data, the lowest first");
        SharedWire x = new SharedWire();
        x.want(0, false, 0x555, 0xA69A, 2);
        x.tape(0);
        Due.is("0x9A comes before 0xA6", Due.tapeOf(x).substring(20, 36), "10011010" + "10100110");
        for (int n = 1; n <= 8; n++) {
            for (int bit : new int[] {0, 8 * n - 1}) {
                takes(1, false, 0x2AA, 1L << bit, n);
            }
        }
    }

    private static void dataAboveDoNotMatter() {
        Due.sentence("Promise 2: what is above does not matter");
        for (int n = 0; n <= 7; n++) {
            Due.is("n " + n + ", 1 above", tapeOf(-1L << 8 * n, n), tapeOf(0, n));
            Due.is("n " + n + ", the lowest above", tapeOf(1L << 8 * n, n), tapeOf(0, n));
            Due.is("n " + n + ", the highest", tapeOf(Long.MIN_VALUE, n), tapeOf(0, n));
        }
        Due.isTrue("of 8 bytes the highest does matter", !tapeOf(Long.MIN_VALUE, 8).equals(tapeOf(0, 8)));
        takes(0, true, 3, -1, 0);
        takes(0, true, 3, -1, 7);
    }

    private static String tapeOf(long data, int n) {
        SharedWire x = new SharedWire();
        x.want(0, false, 5, data, n);
        x.tape(0);
        return Due.tapeOf(x);
    }

    private static void offNodesMayWant() {
        Due.sentence("Promise 2: an off node may want, too");
        SharedWire x = Lines.withOff(1);
        Due.is("it is off", x.node(0, 0), 0);
        for (int i = 2; i <= 4; i++) {
            Due.is("want of an off node", x.want(0, false, i, 0, 0), i);
        }
        Due.isThrown("the fifth", UnsupportedOperationException.class, () -> x.want(0, false, 0, 0, 0));
        Due.isThrown("a wrong one", IllegalArgumentException.class, () -> x.want(0, false, 2048, 0, 0));
        Due.is("nobody sends", x.step(200, 0), 1);
        Due.is("it is off still, and wants them", Lines.told(x, 0) + " " + x.node(0, 3), "0 256 0 4 4");
    }

    private static void wantedAtAnyTime() {
        Due.sentence("Promise 2: a node wants to send one more frame, whatever the wire is");
        for (Moment moment : Moment.values()) {
            SharedWire x = moment.make();
            String roles = Lines.roles(x);
            Due.is(moment + ": want", x.want(2, false, 2000, 0x42, 1), 1);
            Due.is(moment + ": it is no sender at once", Lines.roles(x), roles);
            for (int i = 0; i < 4; i++) {
                x.step(200, 0);
            }
            Due.is(moment + ": it is sent", x.node(2, 3) * 10 + x.node(2, 4), 1);
        }
    }

    private static void theFirstNamedIsThrown() {
        Due.sentence("Promise 2: where several exceptions fit, it is the one that is named first");
        refuses(IndexOutOfBoundsException.class, 4, false, 2048, 0);
        refuses(IndexOutOfBoundsException.class, -1, true, LONGEST + 1, 0);
        refuses(IndexOutOfBoundsException.class, 4, false, 0, 9);
        refuses(IndexOutOfBoundsException.class, -1, true, -1, -1);
        fullRefuses("no such node", IndexOutOfBoundsException.class, x -> x.want(4, false, 0, 0, 0));
        fullRefuses("no such node, and all wrong", IndexOutOfBoundsException.class, x -> x.want(-1, true, -1, 0, 9));
        fullRefuses("identifier", IllegalArgumentException.class, x -> x.want(3, false, 2048, 0, 0));
        fullRefuses("long identifier", IllegalArgumentException.class, x -> x.want(3, true, -1, 0, 0));
        fullRefuses("n", IllegalArgumentException.class, x -> x.want(3, false, 0, 0, 9));
        fullRefuses("n below", IllegalArgumentException.class, x -> x.want(3, true, 0, 0, -1));
        fullRefuses("nothing else", UnsupportedOperationException.class, x -> x.want(3, false, 2047, 0, 8));
    }

    private static void fullRefuses(String what, Class<? extends RuntimeException> due,
            ToLongFunction<SharedWire> call) {
        Twins.refused("full, and " + what, due, () -> full(3), call);
    }
}
