/** Promise 6: node. */
public final class Promise06NodeTest {
    public static void main(String[] args) {
        nodesAre0To3();
        whatsAre0To6();
        whatANodeIs();
        theCountOfSending();
        theCountOfReceiving();
        howManyItWants();
        howManyItSentAndReceived();
        eachFault();
        zeroForNoneEver();
        framesThatGoWellAndJoinLeaveTheFault();
        Twins.onlyLooks("node(0, 0)", x -> x.node(0, 0));
        Twins.onlyLooks("node(3, 6)", x -> x.node(3, 6));
        Due.end();
    }

    private static void refuses(int node, int what) {
        Twins.refusedAlways("node(" + node + ", " + what + ")", IndexOutOfBoundsException.class,
            x -> x.node(node, what));
    }

    private static void nodesAre0To3() {
        Due.sentence("Promise 6: IndexOutOfBoundsException: there is no such node");
        SharedWire x = Moment.WANTING.make();
        Due.is("node(0, 3)", x.node(0, 3), 4);
        Due.is("node(3, 3)", x.node(3, 3), 1);
        refuses(-1, 0);
        refuses(4, 0);
        refuses(4, 6);
        for (int far : Twins.FAR) {
            refuses(far, 0);
        }
    }

    private static void whatsAre0To6() {
        Due.sentence("Promise 6: IndexOutOfBoundsException also for another what");
        SharedWire x = Moment.JUST_BROKEN.make();
        Due.is("node(0, 0)", x.node(0, 0), 1);
        Due.is("node(0, 6)", x.node(0, 6), 4);
        refuses(0, -1);
        refuses(0, 7);
        refuses(3, 7);
        refuses(4, 7);
        refuses(-1, -1);
        for (int far : Twins.FAR) {
            refuses(0, far);
        }
    }

    private static void whatANodeIs() {
        Due.sentence("Promise 6: what = 0: 0 it is off, 1 neither sender nor reader, 2 a reader, 3 a sender");
        SharedWire x = Lines.withOff(1);
        x.want(1, false, 5, 0xA5, 1);
        Due.is("at rest", Lines.roles(x), "0111");
        x.step(1, 4);
        Due.is("with the first bit, which node 2 does not see", Lines.roles(x), "0312");
        SharedWire y = Lines.sendingFive(54);
        Due.is("before the last bit", Lines.roles(y), "3222");
        y.step(1, 0);
        Due.is("behind the last bit", Lines.roles(y), "1111");
        SharedWire z = Lines.sendingFive(7);
        z.step(1, 1);
        Due.is("while it is broken", Lines.roles(z), "1111");
    }

    private static void theCountOfSending() {
        Due.sentence("Promise 6: what = 1: its count of sending");
        SharedWire x = Lines.sendingFive(0);
        for (int i = 0; i <= 32; i++) {
            Due.is("behind " + i + " faults", x.node(0, 1), 8 * i);
            Lines.spoil(x, 1);
        }
        Due.is("an off node's is left", x.node(0, 1), 256);
        Due.is("nobody else's is changed", Lines.ofAll(x, 1), "256 0 0 0");
    }

    private static void theCountOfReceiving() {
        Due.sentence("Promise 6: what = 2: of receiving");
        SharedWire x = new SharedWire();
        for (int i = 0; i <= 5; i++) {
            Due.is("behind " + i + " faults", Lines.ofAll(x, 2), "0 0 " + i + " 0");
            x.step(24, 4);
        }
        Due.is("the count of sending is another", Lines.ofAll(x, 1), "0 0 0 0");
    }

    private static void howManyItWants() {
        Due.sentence("Promise 6: what = 3: how many frames it wants to send");
        SharedWire x = new SharedWire();
        for (int i = 0; i <= 4; i++) {
            Due.is("none to four", x.node(2, 3), i);
            if (i < 4) {
                x.want(2, false, 5, 0xA5, 1);
            }
        }
        for (int i = 4; i > 0; i--) {
            x.step(54, 0);
            Due.is("before the last bit", x.node(2, 3), i);
            x.step(1, 0);
            Due.is("behind the last bit", x.node(2, 3), i - 1);
            x.step(3, 0);
        }
        Due.is("at rest", x.step(60, 0) * 10 + x.wire(), 10);
    }

    private static void howManyItSentAndReceived() {
        Due.sentence("Promise 6: what = 4 how many it sent, 5 how many it received");
        SharedWire x = Lines.sendingFive(54);
        Due.is("sent, before the last bit", Lines.ofAll(x, 4), "0 0 0 0");
        Due.is("received, before the last bit", Lines.ofAll(x, 5), "0 0 0 0");
        x.step(1, 0);
        Due.is("sent, behind it", Lines.ofAll(x, 4), "1 0 0 0");
        Due.is("received, behind it", Lines.ofAll(x, 5), "0 1 1 1");
        for (int i = 0; i < 4; i++) {
            x.want(1, false, i, 0, 0);
        }
        x.want(2, true, 0, 0, 0);
        for (int i = 0; i < 4; i++) {
            x.step(200, 0);
        }
        Due.is("sent by all", Lines.ofAll(x, 4), "1 4 1 0");
        Due.is("received by all", Lines.ofAll(x, 5), "5 2 5 6");
        Due.is("wanted by all", Lines.ofAll(x, 3), "0 0 0 0");
    }

    private static void faultAt(int place, int disturbed, int steps, String due) {
        SharedWire x = Lines.sendingFive(place);
        x.step(steps, disturbed);
        Due.is("disturbed at " + place, Lines.ofAll(x, 6), due);
    }

    private static void eachFault() {
        Due.sentence("Promise 6: what = 6: the last fault that it found");
        faultAt(Lines.FIVE_STUFFED, 2, 1, "0 1 0 0");
        faultAt(Lines.FIVE_DELIMITER - 1, 2, 3, "0 0 0 0");
        faultAt(Lines.FIVE_DELIMITER - 1, 2, 4, "0 2 0 0");
        faultAt(Lines.FIVE_DELIMITER, 4, 1, "0 0 3 0");
        faultAt(0, 1, 1, "4 0 0 0");
        faultAt(Lines.FIVE_ANSWER, 1, 1, "5 0 0 0");
        faultAt(Lines.FIVE_STUFFED, 15, 1, "4 1 1 1");
    }

    private static void zeroForNoneEver() {
        Due.sentence("Promise 6: 0 for none ever");
        SharedWire x = Lines.sendingFive(200);
        Due.is("frames that went well", Lines.ofAll(x, 6), "0 0 0 0");
        x.step(7, 8);
        Due.is("another one's fault", Lines.ofAll(x, 6), "0 0 0 1");
    }

    private static void framesThatGoWellAndJoinLeaveTheFault() {
        Due.sentence("Promise 6: frames that go well, and join(), leave it");
        SharedWire x = Lines.sendingFive(Lines.FIVE_ANSWER);
        x.step(1, 1);
        x.step(17 + 55 + 3, 0);
        Due.is("it is sent, fault 5 is left", x.node(0, 4) * 10 + x.node(0, 6), 15);
        x.want(1, false, 5, 0xA5, 1);
        x.step(58, 0);
        Due.is("one is received, fault 5 is left", x.node(0, 5) * 10 + x.node(0, 6), 15);
        x.want(0, false, 5, 0xA5, 1);
        Lines.spoil(x, 1);
        Due.is("fault 4 is the last", x.node(0, 6), 4);
        Lines.spoil(x, 31);
        Due.is("off", Lines.told(x, 0).charAt(0), '0');
        x.join(0);
        Due.is("join() leaves it", Lines.told(x, 0), "1 0 0 4");
        x.step(200, 0);
        x.step(7, 1);
        Due.is("fault 1 is the last", Lines.told(x, 0), "1 0 1 1");
    }
}
