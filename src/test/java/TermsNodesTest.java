/** Terms: what nodes want and offer: the order, the same ones, and one that is being sent. */
public final class TermsNodesTest {
    private static final int LONGEST = Lines.LONGEST_IDENTIFIER;
    /** Of each pair the second comes first in order. */
    private static final Model.Want[][] PAIRS = {
        {shortOne(1), shortOne(0)},
        {shortOne(2047), shortOne(2046)},
        {shortOne(1024), shortOne(1023)},
        {longOne(0, 0), shortOne(0)},
        {longOne(5, 0), shortOne(5)},
        {longOne(2047, 0x3ffff), shortOne(2047)},
        {shortOne(1), longOne(0, 0x3ffff)},
        {shortOne(6), longOne(5, 0x3ffff)},
        {shortOne(2047), longOne(2046, 0x3ffff)},
        {longOne(5, 0), longOne(4, 0x3ffff)},
        {longOne(5, 1), longOne(5, 0)},
        {longOne(2047, 0x3ffff), longOne(2047, 0x3fffe)},
        {longOne(5, 0x20000), longOne(5, 0x1ffff)},
        {longOne(1024, 0), longOne(1023, 0x3ffff)},
    };

    public static void main(String[] args) {
        theOrderOfOneNode();
        theOrderOfTwoNodes();
        ofTheSameOnesTheFirst();
        theDataDoNotCount();
        theFirstOfFour();
        oneThatIsBeingSentGoesOn();
        theFirstInOrderBehindAFault();
        theFirstInOrderForWhoLost();
        Due.end();
    }

    private static Model.Want shortOne(int identifier) {
        return new Model.Want(false, identifier, 0, 0);
    }

    private static Model.Want longOne(int high, int low) {
        return new Model.Want(true, high << 18 | low, 0, 0);
    }

    private static void want(SharedWire x, int node, Model.Want want) {
        x.want(node, want.isLong(), want.identifier(), want.data(), want.n());
    }

    private static void theOrderOfOneNode() {
        Due.sentence("Terms: it offers the first in order: by the 11 highest bits, short before long, the other bits");
        for (Model.Want[] pair : PAIRS) {
            for (int first = 0; first < 2; first++) {
                SharedWire x = new SharedWire();
                want(x, 1, pair[first]);
                want(x, 1, pair[1 - first]);
                x.tape(1);
                Due.is("offered of " + pair[0] + " and " + pair[1], Due.tapeOf(x), Model.line(pair[1])[0]);
                x.step(200, 0);
                Due.is("the other one is sent last", Due.receivedOf(x, 2), told(pair[0]));
            }
        }
    }

    private static String told(Model.Want want) {
        return Lines.frame(want.isLong(), want.identifier(), want.data(), want.n());
    }

    /** Who goes on among senders is the same order. */
    private static void theOrderOfTwoNodes() {
        Due.sentence("Terms: if it sent 1 and sees 0 there, it loses");
        for (Model.Want[] pair : PAIRS) {
            SharedWire x = new SharedWire();
            want(x, 3, pair[0]);
            want(x, 2, pair[1]);
            x.step(Model.line(pair[1])[0].length(), 0);
            Due.is("sent first of " + pair[0] + " and " + pair[1], Lines.ofAll(x, 4), "0 0 1 0");
            Due.is("received by who lost", Due.receivedOf(x, 3), told(pair[1]));
            Due.is("no faults", Lines.allTold(x), "1 0 0 0, 1 0 0 0, 1 0 0 0, 1 0 0 0");
            x.step(3 + Model.line(pair[0])[0].length(), 0);
            Due.is("then the other", Lines.ofAll(x, 4), "0 0 1 1");
            Due.is("received by who won", Due.receivedOf(x, 2), told(pair[0]));
        }
    }

    private static void receivesInTurn(SharedWire x, int... data) {
        for (int i = 0; i < data.length; i++) {
            for (int k = 0; k < 40 && x.node(1, 5) <= i; k++) {
                x.step(4, 0);
            }
            Due.is("frame " + i + " in turn", x.received(1, 3), data[i]);
        }
        Due.is("wanted at the end", x.node(0, 3), 0);
    }

    private static void ofTheSameOnesTheFirst() {
        Due.sentence("Terms: of the same ones that which came first");
        SharedWire four = new SharedWire();
        for (int i = 4; i >= 1; i--) {
            four.want(0, true, 9, i, 1);
        }
        receivesInTurn(four, 4, 3, 2, 1);
        SharedWire mixed = new SharedWire();
        mixed.want(0, false, 9, 1, 1);
        mixed.want(0, true, 9 << 18, 2, 1);
        mixed.want(0, false, 9, 3, 1);
        mixed.want(0, true, 9 << 18, 4, 1);
        receivesInTurn(mixed, 1, 3, 2, 4);
    }

    private static void theDataDoNotCount() {
        Due.sentence("Terms: of the same ones that which came first, whatever their data and how many bytes");
        SharedWire x = new SharedWire();
        x.want(0, false, 9, 0x77, 8);
        x.want(0, false, 9, 0x55, 1);
        x.want(0, false, 9, 0x66, 1);
        x.want(0, false, 9, 0, 0);
        receivesInTurn(x, 0x77, 0x55, 0x66, 0);
    }

    private static void theFirstOfFour() {
        Due.sentence("Terms: at most 4 frames; it offers the first in order, wherever that came");
        for (int first = 0; first < 4; first++) {
            SharedWire x = new SharedWire();
            for (int i = 0; i < 4; i++) {
                x.want(0, false, i == first ? 7 : 100 + i, i, 1);
            }
            x.step(80, 0);
            Due.is("first of four", Due.receivedOf(x, 1), "7 0 1 " + first);
        }
    }

    private static void oneThatIsBeingSentGoesOn() {
        Due.sentence("Terms: one that is being sent goes on, whatever is wanted since");
        for (int bits : new int[] {1, 12, 54}) {
            SharedWire x = Lines.sendingFive(bits);
            x.want(0, false, 0, 0, 0);
            x.want(0, false, 5, 1, 1);
            Due.is("the line goes on", Due.levels(x, 55 - bits), Lines.answered(Lines.FIVE).substring(bits));
            Due.is("it is 5 that was sent", Due.receivedOf(x, 1), "5 0 1 165");
            Due.is("two are wanted still", x.node(0, 3), 2);
            x.step(60, 0);
            Due.is("then 0", Due.receivedOf(x, 1), "0 0 0 0");
            x.step(60, 0);
            Due.is("then the other 5", Due.receivedOf(x, 1), "5 0 1 1");
        }
        SharedWire before = Lines.sendingFive(0);
        before.want(0, false, 0, 0, 0);
        before.step(58, 0);
        Due.is("one wanted before the first bit comes first", Due.receivedOf(before, 1), "0 0 0 0");
    }

    private static void theFirstInOrderBehindAFault() {
        Due.sentence("Terms: each node that is on and offers a frame sends that frame's first bit, behind a fault too");
        SharedWire x = Lines.sendingFive(1);
        x.want(0, false, 0, 0, 0);
        x.step(1, 1);
        x.step(17 + 50, 0);
        Due.is("0 comes first now", Due.receivedOf(x, 1), "0 0 0 0");
        Due.is("5 is wanted still", x.node(0, 3), 1);
    }

    private static void theFirstInOrderForWhoLost() {
        Due.sentence("Terms: each node that is on and offers a frame sends that frame's first bit, who lost too");
        SharedWire x = new SharedWire();
        x.want(0, false, 2047, 1, 1);
        x.want(1, false, 0, 0, 0);
        x.step(5, 0);
        Due.is("node 0 has lost", Lines.roles(x), "2322");
        x.want(0, false, LONGEST >> 18, 2, 1);
        x.want(0, false, 7, 3, 1);
        x.step(200, 0);
        Due.is("7 first, then the 2047 that came first", Lines.ofAll(x, 4) + ": " + Due.receivedOf(x, 1),
            "2 1 0 0: 2047 0 1 1");
        x.step(200, 0);
        Due.is("then the other", Due.receivedOf(x, 1), "2047 0 1 2");
    }
}
