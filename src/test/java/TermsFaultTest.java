/** Terms: what faults do: the counts, off, and a wire that is broken for all. */
public final class TermsFaultTest {
    private static final int FRAME_AND_PAUSE = 55 + 3;

    public static void main(String[] args) {
        eachByWhatItIs();
        neitherSendersNorReaders();
        eightMoreForSending();
        above255IsOff();
        receivingIsNeverOff();
        sendingGoesDownTo0();
        receivingGoesDownTo0();
        offNodes();
        noneOn();
        aloneUntilItIsOff();
        Due.end();
    }

    private static void eachByWhatItIs() {
        Due.sentence("Terms: each that is a sender counts 8 more for sending, each reader 1 more for receiving");
        String[] due = {"0 0 0", "8 0 4"};
        String[] dueReader = {"0 0 0", "0 1 1"};
        for (int disturbed = 1; disturbed <= 15; disturbed++) {
            SharedWire x = Lines.sendingFive(Lines.FIVE_STUFFED);
            x.step(1, disturbed);
            String all = "1 " + due[disturbed & 1];
            for (int node = 1; node < 4; node++) {
                all += ", 1 " + dueReader[disturbed >> node & 1];
            }
            Due.is("disturbed " + disturbed, Lines.allTold(x), all);
            Due.is("broken", x.wire(), 2);
        }
    }

    private static void neitherSendersNorReaders() {
        Due.sentence("Terms: all nodes are neither senders nor readers then");
        SharedWire x = Lines.sendingFive(9);
        x.want(1, false, 5, 0xA5, 1);
        Due.is("before", Lines.roles(x), "3222");
        x.step(1, 1);
        for (int i = 0; i < 17; i++) {
            Due.is("behind, and " + i, Lines.roles(x), "1111");
            x.step(1, 0);
        }
        x.step(1, 0);
        Due.is("at rest they begin", Lines.roles(x), "3322");
    }

    private static void eightMoreForSending() {
        Due.sentence("Terms: counts 8 more for sending");
        SharedWire x = Lines.sendingFive(0);
        for (int i = 1; i <= 31; i++) {
            Lines.spoil(x, 1);
            Due.is("behind " + i + " faults", Lines.told(x, 0), "1 " + 8 * i + " 0 4");
        }
    }

    /** Node 0 has counted 248, and wants one frame. */
    private static SharedWire with248() {
        SharedWire x = Lines.sendingFive(0);
        Lines.spoil(x, 31);
        return x;
    }

    private static void sendsFive(SharedWire x) {
        x.want(0, false, 5, 0xA5, 1);
        x.step(FRAME_AND_PAUSE, 0);
    }

    private static void above255IsOff() {
        Due.sentence("Terms: one whose count of sending is above 255 then is off");
        SharedWire x = with248();
        Due.is("248", Lines.told(x, 0), "1 248 0 4");
        x.step(1, 1);
        Due.is("256", Lines.told(x, 0), "0 256 0 4");
        SharedWire y = with248();
        y.step(FRAME_AND_PAUSE, 0);
        Due.is("247", Lines.told(y, 0), "1 247 0 4");
        y.want(0, false, 5, 0xA5, 1);
        y.step(1, 1);
        Due.is("255", Lines.told(y, 0), "1 255 0 4");
        y.step(17, 0);
        Due.is("255 sends", y.step(1, 0), 0);
        y.step(1, 1);
        Due.is("263", Lines.told(y, 0), "0 263 0 4");
        SharedWire z = with248();
        z.step(FRAME_AND_PAUSE, 0);
        z.want(0, false, 5, 0xA5, 1);
        Lines.spoil(z, 1);
        z.step(FRAME_AND_PAUSE, 0);
        Due.is("254", Lines.told(z, 0), "1 254 0 4");
        z.want(0, false, 5, 0xA5, 1);
        Lines.spoil(z, 1);
        Due.is("262", Lines.told(z, 0), "0 262 0 4");
    }

    /** Each call is a 0 that all alone see, a fault with the sixth 1 behind it, and all until rest. */
    private static void receivingIsNeverOff() {
        Due.sentence("Terms: one whose count of sending is above 255: the count of receiving may be more");
        SharedWire x = new SharedWire();
        for (int i = 0; i < 300; i++) {
            x.step(24, 15);
        }
        Due.is("300", Lines.allTold(x), "1 0 300 1, 1 0 300 1, 1 0 300 1, 1 0 300 1");
        x.want(0, false, 5, 0xA5, 1);
        Due.is("it sends", x.step(FRAME_AND_PAUSE, 0), 1);
        Due.is("and others receive", Lines.allTold(x), "1 0 300 1, 1 0 299 1, 1 0 299 1, 1 0 299 1");
    }

    private static void sendingGoesDownTo0() {
        Due.sentence("Terms: its count of sending is 1 less (if not 0)");
        SharedWire x = Lines.sendingFive(0);
        Lines.spoil(x, 1);
        x.step(54, 0);
        Due.is("before the last bit", x.node(0, 1), 8);
        x.step(4, 0);
        for (int due = 7; due > 0; due--) {
            Due.is("behind it", x.node(0, 1), due);
            sendsFive(x);
        }
        Due.is("8 frames", x.node(0, 1), 0);
        sendsFive(x);
        Due.is("9 frames", x.node(0, 1), 0);
        Due.is("sent", x.node(0, 4), 9);
        Due.is("who receives counts another", Lines.ofAll(x, 2), "0 0 0 0");
    }

    private static void receivingGoesDownTo0() {
        Due.sentence("Terms: its count of receiving is 1 less (if not 0)");
        SharedWire x = new SharedWire();
        x.step(24, 6);
        x.step(24, 2);
        Due.is("none, one, and two faults", Lines.ofAll(x, 2), "0 2 1 0");
        x.want(0, false, 5, 0xA5, 1);
        x.step(54, 0);
        Due.is("before the last bit", Lines.ofAll(x, 2), "0 2 1 0");
        x.step(4, 0);
        Due.is("one frame", Lines.ofAll(x, 2), "0 1 0 0");
        sendsFive(x);
        Due.is("two frames", Lines.ofAll(x, 2), "0 0 0 0");
        sendsFive(x);
        Due.is("three frames", Lines.ofAll(x, 2), "0 0 0 0");
        x.step(24, 1);
        sendsFive(x);
        Due.is("who sends does not count less for receiving", Lines.ofAll(x, 2), "1 0 0 0");
    }

    private static void offNodes() {
        Due.sentence("Terms: a node is on or off");
        SharedWire x = with248();
        x.step(1, 1);
        Due.is("off", Lines.told(x, 0), "0 256 0 4");
        Due.is("broken", x.wire(), 2);
        Due.is("six 0 while it is broken", x.step(6, 0), 0);
        Due.is("an off node does not send", x.step(200, 0), 1);
        Due.is("at rest", x.wire(), 0);
        x.step(1, 1);
        Due.is("an off node sees nothing", x.wire(), 0);
        x.want(1, false, 5, 0xA5, 1);
        Due.is("others do", Due.levels(x, 55), Lines.answered(Lines.FIVE));
        Due.is("an off node receives nothing", Lines.ofAll(x, 5), "0 0 1 1");
        x.step(3, 0);
        x.step(7, 5);
        Due.is("nor finds faults", Lines.allTold(x), "0 256 0 4, 1 0 0 0, 1 0 1 1, 1 0 0 0");
    }

    private static void noneOn() {
        Due.sentence("Terms: else 1 (so with none on)");
        SharedWire x = Lines.withOff(15);
        Due.is("all are off", Lines.allTold(x), "0 256 0 4, 0 256 0 4, 0 256 0 4, 0 256 0 4");
        Due.is("the level is 1", x.step(1, 0), 1);
        Due.is("whoever is disturbed", x.step(1, 15), 1);
        Due.is("at rest", x.wire(), 0);
    }

    private static void aloneUntilItIsOff() {
        Due.sentence("Terms: fault 5, by one that nobody answers, until it is off");
        SharedWire x = Lines.withOff(14);
        x.want(0, false, 5, 0xA5, 1);
        for (int i = 1; i <= 32; i++) {
            x.step(Lines.FIVE_ANSWER, 0);
            x.step(1, 0);
            Due.is("behind " + i, Lines.told(x, 0), (i < 32 ? 1 : 0) + " " + 8 * i + " 0 5");
            x.step(17, 0);
        }
        Due.is("the level is 1 from there on", x.step(100, 0), 1);
        Due.is("it wants still", x.node(0, 3), 1);
    }
}
