import java.util.NoSuchElementException;

/** Promise 8: tape. What the bits of a frame are has a test that is named after Terms. */
public final class Promise08TapeTest {
    private static final String ZERO = "00000100000100000100000100000100000100001111111111";

    public static void main(String[] args) {
        nodesAre0To3();
        noneOffered();
        whateverItHad();
        onOrOff();
        oneForTheAnswer();
        whatIsOfferedNow();
        whatIsOfferedWhileSending();
        theFrameIsWantedStill();
        shortestAndLongest();
        Due.end();
    }

    private static void nodesAre0To3() {
        Due.sentence("Promise 8: IndexOutOfBoundsException: there is no such node");
        for (int node : new int[] {0, 3}) {
            SharedWire x = new SharedWire();
            x.want(node, false, 5, 0xA5, 1);
            Due.is("tape(" + node + ")", x.tape(node), 55);
            Due.is("tape(" + node + ")", Due.tapeOf(x), Lines.FIVE);
        }
        for (int node : new int[] {-1, 4, Integer.MIN_VALUE, Integer.MAX_VALUE}) {
            Twins.refusedAlways("tape(" + node + ")", IndexOutOfBoundsException.class, x -> x.tape(node));
        }
    }

    private static void noneOffered() {
        Due.sentence("Promise 8: NoSuchElementException when it offers none");
        for (int node = 0; node < 4; node++) {
            int who = node;
            Twins.refused("tape(" + node + ") of a new object", NoSuchElementException.class, SharedWire::new,
                x -> x.tape(who));
        }
        Twins.refusedAlways("tape(2)", NoSuchElementException.class, x -> x.tape(2));
        SharedWire x = Lines.sendingFive(54);
        Due.is("before the last bit", x.tape(0), 55);
        x.step(1, 0);
        Due.isThrown("behind the last bit", NoSuchElementException.class, () -> x.tape(0));
        Due.is("the tape is left", Due.tapeOf(x), Lines.FIVE);
    }

    private static void whateverItHad() {
        Due.sentence("Promise 8: the tape (whatever it had) becomes the bits");
        for (int had : new int[] {0, 1, 54, 55, 56, 200}) {
            isTapedOver("0".repeat(had));
            isTapedOver("1".repeat(had));
        }
    }

    private static void isTapedOver(String bits) {
        String what = "over " + bits.length() + " bits";
        SharedWire x = Lines.sendingFive(0);
        Due.putText(x, bits);
        Due.is(what, x.tape(0), 55);
        Due.is(what, Due.tapeOf(x), Lines.FIVE);
        Due.isThrown("bit(55), " + what, IndexOutOfBoundsException.class, () -> x.bit(55));
        Due.is("wipe(), " + what, x.wipe(), 55);
    }

    private static void onOrOff() {
        Due.sentence("Promise 8: a node, on or off");
        SharedWire x = Lines.withOff(1);
        Due.is("of an off node", x.tape(0), 55);
        Due.is("of an off node", Due.tapeOf(x), Lines.FIVE);
        Due.is("it is off still", x.node(0, 0), 0);
        x.want(0, false, 0, 0, 0);
        Due.is("that wants one that comes before", x.tape(0), 50);
        Due.is("that wants one that comes before", Due.tapeOf(x), ZERO);
    }

    private static void oneForTheAnswer() {
        Due.sentence("Promise 8: 1 for the answer");
        SharedWire x = Lines.sendingFive(Lines.FIVE_ANSWER + 1);
        x.tape(0);
        Due.is("of one that has been answered", x.bit(Lines.FIVE_ANSWER), 1);
        Due.is("of one that has been answered", Due.tapeOf(x), Lines.FIVE);
    }

    private static void whatIsOfferedNow() {
        Due.sentence("Promise 8: the frame that a node offers");
        SharedWire x = new SharedWire();
        x.want(1, false, 5, 0xA5, 1);
        x.tape(1);
        x.want(1, false, 0, 0, 0);
        Due.is("the wants leave the tape", Due.tapeOf(x), Lines.FIVE);
        Due.is("one that comes before", x.tape(1), 50);
        x.want(1, true, 0, 0, 0);
        x.want(1, false, 6, 0, 0);
        Due.is("the first in order of four", x.tape(1), 50);
        Due.is("the first in order of four", Due.tapeOf(x), ZERO);
        Due.isThrown("another node offers none", NoSuchElementException.class, () -> x.tape(0));
        x.step(50, 0);
        Due.is("the wire leaves the tape", Due.tapeOf(x), ZERO);
        x.tape(1);
        Due.is("then the long one", Due.tapeOf(x), Model.line(new Model.Want(true, 0, 0, 0))[0]);
    }

    /** The words are taken as they stand: what is being sent goes on, but is not offered then. */
    private static void whatIsOfferedWhileSending() {
        Due.sentence("Promise 8: the frame that a node offers is the first in order, while it sends another too");
        SharedWire x = Lines.sendingFive(20);
        x.want(0, false, 6, 0, 0);
        x.tape(0);
        Due.is("one that comes behind was wanted since", Due.tapeOf(x), Lines.FIVE);
        x.want(0, false, 0, 0, 0);
        x.tape(0);
        Due.is("one that comes before was wanted since", Due.tapeOf(x), ZERO);
        x.step(35, 0);
        Due.is("what is sent has gone on", Due.receivedOf(x, 1), "5 0 1 165");
    }

    private static void theFrameIsWantedStill() {
        Due.sentence("Promise 8: the tape becomes the bits: nothing else is changed");
        Twins.changesTheTapeAlone("tape(0)", x -> x.tape(0));
    }

    private static void shortestAndLongest() {
        Due.sentence("Promise 8: how many");
        taped(Edge.SHORTEST, 45);
        taped(Edge.LONGEST, 155);
    }

    private static void taped(Edge edge, int length) {
        SharedWire x = edge.wanted(3);
        Due.is("tape(3) of " + edge.what(), x.tape(3), length);
        Due.is("the tape of " + edge.what(), Due.tapeOf(x), edge.line());
        Due.is("the levels of " + edge.what(), Due.levels(x, length), Lines.answered(edge.line()));
        Due.is(edge.what() + " is sent", Lines.ofAll(x, 4), "0 0 0 1");
    }
}
