import java.util.NoSuchElementException;

/** Promises 4, 6 and 7: join, node and received. */
public final class NodeTest {
    private static final int[] NO_NODES = {-1, 4, Integer.MIN_VALUE, Integer.MAX_VALUE};

    public static void main(String[] args) {
        wrongArguments();
        joinOfOneThatIsOn();
        joinAtRest();
        joinWhileBusy();
        joinWhileBroken();
        joinClearsBothCounts();
        receivedThrows();
        receivedFrames();
        receivedIsTheLast();
        countsOfFrames();
        lastFaultIsLeft();
        Due.end();
    }

    private static void wrongArguments() {
        SharedWire x = Lines.sendingFive(200);
        String before = Due.stateOf(x);
        for (int node : NO_NODES) {
            Due.isThrown("join(" + node + ")", IndexOutOfBoundsException.class, () -> Due.number(x.join(node)));
            Due.isThrown("node(" + node + ", 0)", IndexOutOfBoundsException.class, () -> x.node(node, 0));
            Due.isThrown("received(" + node + ", 0)", IndexOutOfBoundsException.class, () -> x.received(node, 0));
        }
        int[] nodeWhats = {-1, 7, Integer.MIN_VALUE, Integer.MAX_VALUE};
        for (int what : nodeWhats) {
            Due.isThrown("node(0, " + what + ")", IndexOutOfBoundsException.class, () -> x.node(0, what));
        }
        int[] receivedWhats = {-1, 4, Integer.MIN_VALUE, Integer.MAX_VALUE};
        for (int what : receivedWhats) {
            Due.isThrown("received(1, " + what + ")", IndexOutOfBoundsException.class, () -> x.received(1, what));
        }
        Due.is("state behind wrong calls", Due.stateOf(x), before);
    }

    private static void joinOfOneThatIsOn() {
        SharedWire x = Lines.sendingFive(3);
        x.step(1, 1);
        x.step(20, 0);
        String before = Due.stateOf(x);
        for (int node = 0; node < 4; node++) {
            Due.is("join(" + node + ")", Due.number(x.join(node)), 0);
        }
        Due.is("it changes nothing", Due.stateOf(x), before);
    }

    private static SharedWire withNodeOff() {
        SharedWire x = Lines.sendingFive(0);
        Lines.spoil(x, 32);
        return x;
    }

    private static void joinAtRest() {
        SharedWire x = withNodeOff();
        Due.is("off", Lines.told(x, 0), "0 256 0 4");
        Due.is("join(0)", Due.number(x.join(0)), 1);
        Due.is("on, with counts of 0", Lines.told(x, 0), "1 0 0 4");
        Due.is("it wants what it wanted", x.node(0, 3), 1);
        Due.is("join(0) again", Due.number(x.join(0)), 0);
        Due.is("it sends at once", Due.levels(x, 55), Lines.answered(Lines.FIVE));
        Due.is("it is sent", x.node(0, 4), 1);
    }

    private static void joinWhileBusy() {
        SharedWire x = withNodeOff();
        x.want(1, false, 0x555, 0x5A, 1);
        x.step(1, 0);
        Due.is("join(0)", Due.number(x.join(0)), 1);
        Due.is("neither", x.node(0, 0), 1);
        Due.is("it sees a 1", x.step(1, 0), 1);
        Due.is("neither still", x.node(0, 0), 1);
        Due.is("it sees a 0", x.step(1, 0), 0);
        Due.is("a reader", x.node(0, 0), 2);
        Due.is("it does not send", x.node(0, 3), 1);
    }

    private static void joinWhileBroken() {
        SharedWire x = Lines.sendingFive(0);
        Lines.spoil(x, 31);
        x.step(1, 1);
        Due.is("join(0)", Due.number(x.join(0)), 1);
        Due.is("broken still", x.wire(), 2);
        Due.is("neither", Lines.told(x, 0), "1 0 0 4");
        Due.is("it waits for the pause's end", x.step(17, 0), 1);
        Due.is("neither", x.node(0, 0), 1);
        Due.is("then it sends", x.step(1, 0), 0);
        Due.is("a sender", x.node(0, 0), 3);
    }

    private static void joinClearsBothCounts() {
        SharedWire x = new SharedWire();
        x.step(7, 1);
        x.step(17, 0);
        Due.is("a fault as a reader", Lines.told(x, 0), "1 0 1 1");
        x.want(0, false, 5, 0xA5, 1);
        Lines.spoil(x, 32);
        Due.is("32 as a sender", Lines.told(x, 0), "0 256 1 4");
        Due.is("join(0)", Due.number(x.join(0)), 1);
        Due.is("both counts are 0", Lines.told(x, 0), "1 0 0 4");
    }

    private static void receivedThrows() {
        SharedWire x = Lines.sendingFive(54);
        for (int node = 0; node < 4; node++) {
            int who = node;
            for (int what = 0; what < 4; what++) {
                int asked = what;
                Due.isThrown("received none yet", NoSuchElementException.class, () -> x.received(who, asked));
            }
            Due.isThrown("no such what, and none", IndexOutOfBoundsException.class, () -> x.received(who, 4));
        }
        x.step(1, 0);
        Due.is("received with the last bit", Due.receivedOf(x, 3), "5 0 1 165");
        Due.isThrown("not by who sent", NoSuchElementException.class, () -> x.received(0, 0));
    }

    private static void receivedFrames() {
        receives(false, 0, 0, 0, 0);
        receives(false, 2047, -1, 8, -1);
        receives(true, 0, -1, 0, 0);
        receives(true, (1 << 29) - 1, Long.MIN_VALUE, 8, Long.MIN_VALUE);
        receives(true, 0x12345678, 0x1122334455667788L, 7, 0x22334455667788L);
        receives(false, 0x123, 0x1122334455667788L, 3, 0x667788L);
        receives(false, 1, -1, 1, 255);
    }

    private static void receives(boolean isLong, int identifier, long data, int n, long due) {
        SharedWire x = new SharedWire();
        x.want(2, isLong, identifier, data, n);
        x.step(200, 0);
        String told = identifier + " " + (isLong ? 1 : 0) + " " + n + " " + due;
        Due.is("received by 0", Due.receivedOf(x, 0), told);
        Due.is("received by 3", Due.receivedOf(x, 3), told);
    }

    private static void receivedIsTheLast() {
        SharedWire x = new SharedWire();
        x.want(0, true, 3, -1, 8);
        x.step(200, 0);
        x.want(0, false, 5, 0xA5, 1);
        x.step(54, 0);
        Due.is("one that is being read does not count", Due.receivedOf(x, 1), "3 1 8 -1");
        x.step(1, 0);
        Due.is("0 above its bytes", Due.receivedOf(x, 1), "5 0 1 165");
        x.want(0, false, 6, 7, 1);
        x.step(30, 0);
        x.step(1, 1);
        Due.is("one broken off does not count", Due.receivedOf(x, 1), "5 0 1 165");
    }

    private static void countsOfFrames() {
        SharedWire x = new SharedWire();
        for (int i = 0; i < 4; i++) {
            x.want(1, false, i, 0, 0);
        }
        x.want(2, true, 0, 0, 0);
        for (int i = 0; i < 4; i++) {
            x.step(200, 0);
        }
        Due.is("node 1", x.node(1, 3) + " " + x.node(1, 4) + " " + x.node(1, 5), "0 4 1");
        Due.is("node 2", x.node(2, 3) + " " + x.node(2, 4) + " " + x.node(2, 5), "0 1 4");
        Due.is("node 3", x.node(3, 3) + " " + x.node(3, 4) + " " + x.node(3, 5), "0 0 5");
    }

    private static void lastFaultIsLeft() {
        SharedWire x = Lines.sendingFive(Lines.FIVE_ANSWER);
        x.step(1, 1);
        Due.is("fault 5", x.node(0, 6), 5);
        x.step(17 + 55, 0);
        Due.is("it is sent", x.node(0, 4), 1);
        Due.is("fault 5 still", x.node(0, 6), 5);
        x.want(0, false, 5, 0xA5, 1);
        x.step(3, 0);
        x.step(1, 1);
        Due.is("fault 4 since", x.node(0, 6), 4);
    }
}
