/** Promise 5: wire, as it is for the next step. */
public final class Promise05WireTest {
    public static void main(String[] args) {
        atRestWhateverTheTime();
        oneFrame();
        aFrameThatWaits();
        brokenFor14AndAPauseOf3();
        brokenFromTheNextStepOn();
        busyWhenOneSees0();
        busyWhileThereIsAReader();
        noneOn();
        Twins.onlyLooks("wire()", SharedWire::wire);
        Due.end();
    }

    private static String wires(SharedWire x, int steps) {
        StringBuilder all = new StringBuilder().append(x.wire());
        for (int i = 0; i < steps; i++) {
            x.step(1, 0);
            all.append(x.wire());
        }
        return all.toString();
    }

    private static void atRestWhateverTheTime() {
        Due.sentence("Promise 5: 0 at rest");
        SharedWire x = new SharedWire();
        Due.is("each of 20 steps", wires(x, 20), "0".repeat(21));
        x.step(200, 0);
        Due.is("behind 200 more", x.wire(), 0);
        x.want(0, false, 5, 0xA5, 1);
        Due.is("when one wants, before the next step", x.wire(), 0);
    }

    private static void oneFrame() {
        Due.sentence("Promise 5: 1 busy; a pause begins when there is no sender and no reader any more");
        Due.is("a frame of 55 bits", wires(Lines.sendingFive(0), 59), "0" + "1".repeat(54) + "333" + "00");
    }

    private static void aFrameThatWaits() {
        Due.sentence("Terms: in a pause of 3 steps (then it is at rest)");
        SharedWire x = Lines.sendingFive(54);
        x.want(1, false, 5, 0xA5, 1);
        Due.is("one frame behind the other", wires(x, 6), "1" + "333" + "0" + "11");
    }

    private static void brokenFor14AndAPauseOf3() {
        Due.sentence("Promise 5: 2 broken for 14 steps, 3 in the pause of 3");
        SharedWire x = Lines.sendingFive(3);
        x.step(1, 1);
        Due.is("a frame that comes again", wires(x, 20), "2".repeat(14) + "333" + "0" + "111");
        SharedWire alone = new SharedWire();
        alone.step(7, 1);
        Due.is("with no frame to come", wires(alone, 20), "2".repeat(14) + "333" + "0000");
    }

    private static void brokenFromTheNextStepOn() {
        Due.sentence("Terms: the wire is broken from the next step on");
        SharedWire x = Lines.sendingFive(9);
        Due.is("before", x.wire(), 1);
        Due.is("the level of the fault's step is what is sent", x.step(1, 1), 0);
        Due.is("behind", x.wire(), 2);
        SharedWire first = Lines.sendingFive(0);
        Due.is("with the first bit too", first.step(1, 1), 0);
        Due.is("behind the first bit", first.wire(), 2);
    }

    private static void busyWhenOneSees0() {
        Due.sentence("Terms: if no node sends and none sees 0, the wire is at rest still; else it is busy");
        for (int node = 0; node < 4; node++) {
            SharedWire x = new SharedWire();
            Due.is("nobody sends", x.step(1, 1 << node), 1);
            Due.is("node " + node + " alone sees 0", x.wire(), 1);
        }
        SharedWire missed = Lines.sendingFive(0);
        missed.step(1, 14);
        Due.is("one sends and no other sees 0", Lines.roles(missed) + " " + missed.wire(), "3111 1");
    }

    private static void busyWhileThereIsAReader() {
        Due.sentence("Terms: busy while there is a sender or a reader");
        SharedWire x = Lines.sendingFive(12);
        x.step(1, 1);
        Due.is("a sender has lost to nobody", Lines.roles(x) + " " + x.wire(), "2222 1");
        x.step(4, 0);
        Due.is("readers alone", Lines.roles(x) + " " + x.wire(), "2222 1");
    }

    private static void noneOn() {
        Due.sentence("Terms: with none on, the level is 1");
        SharedWire x = Lines.withOff(15);
        Due.is("at rest", wires(x, 5), "000000");
        SharedWire y = Lines.wanting(15);
        Lines.spoil(y, 31, 15);
        y.step(1, 15);
        Due.is("all are off with this step", Lines.roles(y), "0000");
        Due.is("the wire is broken as ever", wires(y, 18), "2".repeat(14) + "333" + "00");
    }
}
