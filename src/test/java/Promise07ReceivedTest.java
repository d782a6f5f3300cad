import java.util.NoSuchElementException;

/** Promise 7: received. */
public final class Promise07ReceivedTest {
    private static final int LONGEST = Lines.LONGEST_IDENTIFIER;

    public static void main(String[] args) {
        nodesAre0To3();
        whatsAre0To3();
        noneReceived();
        theFirstNamedIsThrown();
        withTheLastBitAlone();
        notByWhoSends();
        framesAtTheEdges();
        zeroAboveItsBytes();
        aNumberOfBytesAbove8();
        theLastOne();
        offNodesKeepIt();
        Twins.onlyLooks("received(1, 3)", x -> x.received(1, 3));
        Due.end();
    }

    private static SharedWire allReceived() {
        SharedWire x = Lines.sendingFive(58);
        x.want(1, true, 7, 0x77, 1);
        x.step(200, 0);
        return x;
    }

    private static void refuses(String what, Class<? extends RuntimeException> due, int node, int asked) {
        Twins.refused(what + ": received(" + node + ", " + asked + ")", due, Promise07ReceivedTest::allReceived,
            x -> x.received(node, asked));
    }

    private static void nodesAre0To3() {
        Due.sentence("Promise 7: IndexOutOfBoundsException: there is no such node");
        SharedWire x = allReceived();
        Due.is("received(0, 0)", x.received(0, 0), 7);
        Due.is("received(3, 0)", x.received(3, 0), 7);
        for (int node : new int[] {-1, 4, Integer.MIN_VALUE, Integer.MAX_VALUE}) {
            refuses("all have received", IndexOutOfBoundsException.class, node, 0);
            refuses("all have received", IndexOutOfBoundsException.class, node, 3);
        }
    }

    private static void whatsAre0To3() {
        Due.sentence("Promise 7: IndexOutOfBoundsException also for another what");
        SharedWire x = allReceived();
        Due.is("received(3, 0 .. 3)", Due.receivedOf(x, 3), "7 1 1 119");
        for (int what : new int[] {-1, 4, Integer.MIN_VALUE, Integer.MAX_VALUE}) {
            refuses("all have received", IndexOutOfBoundsException.class, 0, what);
            refuses("all have received", IndexOutOfBoundsException.class, 3, what);
        }
    }

    private static void noneReceived() {
        Due.sentence("Promise 7: NoSuchElementException when it received none");
        for (int node = 0; node < 4; node++) {
            for (int what = 0; what <= 3; what++) {
                int who = node;
                int asked = what;
                Twins.refused("received(" + who + ", " + asked + ") of a new object", NoSuchElementException.class,
                    SharedWire::new, x -> x.received(who, asked));
            }
        }
        Twins.refused("of an off node", NoSuchElementException.class, Moment.NODE_0_OFF::make, x -> x.received(0, 0));
    }

    private static void theFirstNamedIsThrown() {
        Due.sentence("Promise 7: where both exceptions fit, it is IndexOutOfBoundsException");
        int[][] wrong = {{0, -1}, {0, 4}, {3, 4}, {-1, 0}, {4, 0}, {4, 4}, {-1, -1}};
        for (int[] call : wrong) {
            Twins.refused("received(" + call[0] + ", " + call[1] + ") with none received",
                IndexOutOfBoundsException.class, SharedWire::new, x -> x.received(call[0], call[1]));
        }
    }

    private static void withTheLastBitAlone() {
        Due.sentence("Terms: each reader that has read the last 1 has received the frame");
        SharedWire x = Lines.sendingFive(54);
        for (int node = 1; node < 4; node++) {
            int who = node;
            Due.isThrown("before the last bit", NoSuchElementException.class, () -> x.received(who, 0));
        }
        x.step(1, 0);
        for (int node = 1; node < 4; node++) {
            Due.is("behind the last bit", Due.receivedOf(x, node), "5 0 1 165");
        }
    }

    private static void notByWhoSends() {
        Due.sentence("Promise 7: the frame that a node received: who sends it does not");
        SharedWire x = Lines.sendingFive(55);
        Due.isThrown("received(0, 0)", NoSuchElementException.class, () -> x.received(0, 0));
        SharedWire both = Lines.sendingFive(0);
        both.want(1, false, 5, 0xA5, 1);
        both.step(55, 0);
        Due.isThrown("one of two that send the same", NoSuchElementException.class, () -> both.received(1, 0));
        Due.is("who reads it", Due.receivedOf(both, 2), "5 0 1 165");
    }

    private static void receives(boolean isLong, int identifier, long data, int n) {
        SharedWire x = new SharedWire();
        x.want(2, isLong, identifier, data, n);
        x.step(200, 0);
        Due.is("received by 0", Due.receivedOf(x, 0), Lines.frame(isLong, identifier, data, n));
        Due.is("received by 3", Due.receivedOf(x, 3), Lines.frame(isLong, identifier, data, n));
    }

    private static void framesAtTheEdges() {
        Due.sentence("Promise 7: its identifier, 1 if it is long, the number of its bytes, its data as for want");
        receives(false, 0, 0, 0);
        receives(false, 2047, -1, 8);
        receives(true, 0, -1, 0);
        receives(true, 2047, 1, 1);
        receives(true, 2048, 1, 1);
        receives(true, LONGEST, Long.MIN_VALUE, 8);
        receives(true, LONGEST, Long.MAX_VALUE, 8);
        for (int bit = 0; bit < 29; bit++) {
            receives(true, 1 << bit, 1L << bit, 8);
            receives(true, LONGEST ^ 1 << bit, ~(1L << bit + 32), 8);
        }
        for (int bit = 0; bit < 11; bit++) {
            receives(false, 1 << bit, 1, 1);
            receives(false, 2047 ^ 1 << bit, 0xFE, 1);
        }
    }

    private static void zeroAboveItsBytes() {
        Due.sentence("Promise 7: its data, 0 above its bytes");
        SharedWire x = new SharedWire();
        for (int n = 8; n >= 0; n--) {
            x.want(0, false, n, -1, n);
            x.step(200, 0);
            Due.is("behind one of more bytes", Due.receivedOf(x, 1), n + " 0 " + n + " " + Lines.lowest(-1, n));
        }
    }

    private static void aNumberOfBytesAbove8() {
        Due.sentence("Terms: a number of bytes above 8 counts as 8");
        for (String line : LooseLines.MANY_BYTES) {
            SharedWire x = new SharedWire();
            Shown.to(x, 1, line);
            Due.is("9 .. 15", Due.receivedOf(x, 1), 0x2A5 + " 0 8 " + 0x0807060504030201L);
        }
    }

    private static void theLastOne() {
        Due.sentence("Promise 7: the frame that a node received last");
        SharedWire x = new SharedWire();
        x.want(0, true, 3, -1, 8);
        x.step(200, 0);
        x.want(0, false, 5, 0xA5, 1);
        x.step(54, 0);
        Due.is("one that is being read does not count yet", Due.receivedOf(x, 1), "3 1 8 -1");
        x.step(1, 2);
        Due.is("nor one broken off with its last bit", Due.receivedOf(x, 1), "3 1 8 -1");
        Due.is("nor for others", Due.receivedOf(x, 2), "3 1 8 -1");
        x.step(17 + 55, 0);
        Due.is("then it comes again", Due.receivedOf(x, 1), "5 0 1 165");
        x.want(1, false, 6, 7, 1);
        x.step(200, 0);
        Due.is("who sends keeps what it had", Due.receivedOf(x, 1), "5 0 1 165");
        Due.is("who reads does not", Due.receivedOf(x, 2), "6 0 1 7");
    }

    private static void offNodesKeepIt() {
        Due.sentence("Promise 7: the frame that a node received last, on or off");
        SharedWire x = new SharedWire();
        x.want(1, false, 5, 0xA5, 1);
        x.step(58, 0);
        x.want(0, false, 6, 0, 0);
        Lines.spoil(x, 32);
        x.want(1, false, 7, 0, 0);
        x.step(200, 0);
        Due.is("an off node receives no other", x.node(0, 0) + " " + Due.receivedOf(x, 0), "0 5 0 1 165");
        Due.is("others do", Due.receivedOf(x, 2), "7 0 0 0");
        x.join(0);
        Due.is("join() leaves it", Due.receivedOf(x, 0), "5 0 1 165");
    }
}
