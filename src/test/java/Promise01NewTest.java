import java.util.NoSuchElementException;

/** Promise 1: a new object. */
public final class Promise01NewTest {
    private static final String NONE = "throws java.util.NoSuchElementException";
    private static final String NEW_NODE = "node 1 0 0 0 0 0 0 received " + NONE + " " + NONE + " " + NONE + " " + NONE;

    public static void main(String[] args) {
        atRest();
        allNodesAreOn();
        theTapeIsEmpty();
        nothingIsWantedSentOrReceived();
        objectsShareNothing();
        Due.end();
    }

    private static void atRest() {
        Due.sentence("Promise 1: at rest");
        SharedWire x = new SharedWire();
        Due.is("wire()", x.wire(), 0);
        Due.is("step(1, 0)", x.step(1, 0), 1);
        Due.is("wire() still", x.wire(), 0);
        SharedWire y = new SharedWire();
        y.want(3, false, 5, 0, 0);
        Due.is("who offers a frame begins with the first step", y.step(1, 0), 0);
    }

    private static void allNodesAreOn() {
        Due.sentence("Promise 1: all nodes are on");
        SharedWire x = new SharedWire();
        for (int node = 0; node < 4; node++) {
            Due.is("node(" + node + ", 0)", x.node(node, 0), 1);
            Due.is("join(" + node + ")", Due.number(x.join(node)), 0);
        }
        for (int node = 0; node < 4; node++) {
            SharedWire y = new SharedWire();
            y.step(1, 1 << node);
            Due.is("node " + node + " sees a 0", y.node(node, 0), 2);
        }
    }

    private static void theTapeIsEmpty() {
        Due.sentence("Promise 1: the tape is empty");
        SharedWire x = new SharedWire();
        Due.isThrown("bit(0)", IndexOutOfBoundsException.class, () -> x.bit(0));
        Due.is("read()", x.read(), 4000);
        Due.is("wipe()", x.wipe(), 0);
    }

    private static void nothingIsWantedSentOrReceived() {
        Due.sentence("Terms: two counts, 0 at first; nothing is wanted, sent or received yet");
        SharedWire x = new SharedWire();
        for (int node = 0; node < 4; node++) {
            int who = node;
            Due.is("node " + node, Due.nodeOf(x, node), NEW_NODE);
            Due.isThrown("tape(" + node + ")", NoSuchElementException.class, () -> x.tape(who));
        }
    }

    private static void objectsShareNothing() {
        Due.sentence("Promise 1: a new object, whatever was done with others");
        SharedWire before = new SharedWire();
        SharedWire used = Lines.withOff(3);
        used.put(-1, 64);
        used.want(2, true, 7, -1, 8);
        used.step(200, 0);
        SharedWire behind = new SharedWire();
        for (SharedWire x : new SharedWire[] {before, behind}) {
            Due.is("wire() and nodes", Due.wireOf(x), "wire 0" + (" | " + NEW_NODE).repeat(4));
            Due.is("tape", Due.tapeOf(x), "");
        }
    }
}
