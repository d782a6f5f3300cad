/** Terms: a step: the level, what nodes see, and who begins at rest. */
public final class TermsStepTest {
    public static void main(String[] args) {
        theLevelIs0IfOneSends0();
        theLevelIsNotDisturbed();
        whoBeginsAtRest();
        offNodesNeitherSendNorSee();
        aSenderThatSees1AtFirst();
        aReaderFromTheFirst0();
        neitherSees0WhileBusy();
        nobodyBeginsWhileBusy();
        nobodySendsInThePause();
        levelsOfABrokenWire();
        stepsOfABrokenWire();
        Due.end();
    }

    private static void theLevelIs0IfOneSends0() {
        Due.sentence("Terms: the level is 0 if one sends 0, else 1");
        for (int nodes = 0; nodes <= 15; nodes++) {
            Due.is("those that begin: " + nodes, Lines.wanting(nodes).step(1, 0), nodes == 0 ? 1 : 0);
        }
        // All are senders of the same: nobody answers.
        SharedWire all = Lines.wanting(15);
        Due.is("all send the answer's 1", Due.levels(all, 47), Lines.FIVE.substring(0, 47));
        SharedWire three = Lines.wanting(14);
        Due.is("one reads, and answers", Due.levels(three, 55), Lines.answered(Lines.FIVE));
        Due.is("with none on", Lines.withOff(15).step(1, 0), 1);
    }

    private static void theLevelIsNotDisturbed() {
        Due.sentence("Terms: each node sees the level, or the other one, if it is disturbed");
        for (int disturbed = 0; disturbed <= 15; disturbed++) {
            Due.is("of a 0", Lines.sendingFive(0).step(1, disturbed), 0);
            Due.is("of a 1", Lines.sendingFive(5).step(1, disturbed), 1);
        }
    }

    private static void whoBeginsAtRest() {
        Due.sentence("Terms: each node that is on and offers a frame sends 0, and is a sender; all others send 1");
        for (int nodes = 0; nodes <= 15; nodes++) {
            SharedWire x = Lines.wanting(nodes);
            x.step(1, 0);
            for (int node = 0; node < 4; node++) {
                int due = nodes == 0 ? 1 : (nodes >> node & 1) == 1 ? 3 : 2;
                Due.is("node " + node + " of " + nodes, x.node(node, 0), due);
            }
            Due.is("the wire with " + nodes, x.wire(), nodes == 0 ? 0 : 1);
        }
    }

    private static void offNodesNeitherSendNorSee() {
        Due.sentence("Terms: a node that is on");
        SharedWire x = Lines.withOff(3);
        x.want(2, false, 5, 0xA5, 1);
        Due.is("the line", Due.levels(x, 55), Lines.answered(Lines.FIVE));
        Due.is("sent", Lines.ofAll(x, 4), "0 0 1 0");
        Due.is("received", Lines.ofAll(x, 5), "0 0 0 1");
        Due.is("off nodes are left", Lines.told(x, 0) + ", " + Lines.told(x, 1), "0 256 0 4, 0 256 0 4");
        SharedWire alone = Lines.withOff(7);
        alone.want(3, false, 5, 0xA5, 1);
        Due.is("off nodes do not answer", alone.step(47, 0), 1);
        Due.is("so it is fault 5", Lines.told(alone, 3), "1 8 0 5");
    }

    private static void aSenderThatSees1AtFirst() {
        Due.sentence("Terms: if a sender sees 1 at rest, that is fault 4 of it");
        SharedWire x = Lines.wanting(5);
        Due.is("the level is 0", x.step(1, 1), 0);
        Due.is("one of two senders", Lines.allTold(x), "1 8 0 4, 1 0 0 0, 1 0 0 0, 1 0 0 0");
        Due.is("broken", x.wire(), 2);
        SharedWire both = Lines.wanting(5);
        both.step(1, 5);
        Due.is("both", Lines.allTold(both), "1 8 0 4, 1 0 0 0, 1 8 0 4, 1 0 0 0");
        SharedWire others = Lines.wanting(1);
        others.step(1, 14);
        Due.is("the others see 1: no fault", Lines.allTold(others), "3 0 0 0, 1 0 0 0, 1 0 0 0, 1 0 0 0");
    }

    private static void aReaderFromTheFirst0() {
        Due.sentence("Terms: a node that is on, no sender, and sees 0, is a reader who has read that");
        SharedWire x = new SharedWire();
        x.step(1, 2);
        Due.is("one 0 that nobody sent", Lines.roles(x) + " " + x.wire(), "1211 1");
        x.step(5, 0);
        Due.is("five 1 behind it", Lines.roles(x) + " " + x.wire(), "1211 1");
        x.step(1, 0);
        Due.is("a sixth", Lines.told(x, 1) + " " + x.wire(), "1 0 1 1 2");
        SharedWire zeros = new SharedWire();
        for (int i = 0; i < 5; i++) {
            zeros.step(1, 2);
        }
        Due.is("five 0, the first counted", Lines.roles(zeros), "1211");
        zeros.step(1, 2);
        Due.is("a sixth 0", Lines.told(zeros, 1), "1 0 1 1");
    }

    private static void neitherSees0WhileBusy() {
        Due.sentence("Terms: a node that is on, and is neither, sends 1; if it sees 0, it is a reader");
        SharedWire x = Lines.wanting(1);
        x.step(1, 4);
        Due.is("it has missed the first bit", Lines.roles(x), "3212");
        x.step(1, 4);
        Due.is("and the second", Lines.roles(x), "3212");
        x.step(1, 0);
        Due.is("but not the third", Lines.roles(x), "3222");
        SharedWire ones = new SharedWire();
        ones.want(0, false, 2047, 0, 0);
        ones.step(1, 4);
        ones.step(5, 0);
        Due.is("it waits through 1", Lines.roles(ones), "3212");
        ones.step(1, 0);
        Due.is("and begins with the stuffed 0", Lines.roles(ones), "3222");
    }

    private static void nobodyBeginsWhileBusy() {
        Due.sentence("Terms: a node begins at rest alone");
        SharedWire x = Lines.sendingFive(1);
        x.want(1, false, 0, 0, 0);
        Due.is("the line goes on", Due.levels(x, 54), Lines.answered(Lines.FIVE).substring(1));
        Due.is("node 1 has received it", x.node(1, 5), 1);
        SharedWire y = new SharedWire();
        y.step(1, 4);
        y.want(0, false, 0, 0, 0);
        Due.is("nor where nobody sends", y.step(5, 0), 1);
        Due.is("node 0 waits", Lines.roles(y), "1121");
    }

    private static void nobodySendsInThePause() {
        Due.sentence("Terms: in a pause of 3 steps nodes neither send nor see anything");
        SharedWire x = Lines.sendingFive(55);
        x.want(1, false, 0, 0, 0);
        for (int i = 0; i < 3; i++) {
            Due.is("step " + i + " of the pause", x.step(1, 15), 1);
            Due.is("nodes in the pause", Lines.allTold(x), "1 0 0 0, 1 0 0 0, 1 0 0 0, 1 0 0 0");
        }
        Due.is("behind the pause", x.step(1, 0), 0);
        Due.is("behind the pause", Lines.roles(x), "2322");
    }

    private static void levelsOfABrokenWire() {
        Due.sentence("Terms: 0 in the first six steps in which it is broken, and 1 in the others; with none on, too");
        SharedWire x = Lines.sendingFive(5);
        Due.is("in the fault's step, what was sent", x.step(1, 1), 1);
        Due.is("broken, in the pause, and the frame anew", Due.levels(x, 14 + 3 + 6),
            "000000" + "11111111" + "111" + "000001");
        SharedWire alone = new SharedWire();
        alone.step(7, 8);
        Due.is("with no frame to come", Due.levels(alone, 25), "000000" + "1".repeat(19));
        SharedWire off = Lines.wanting(15);
        Lines.spoil(off, 31, 15);
        off.step(1, 15);
        Due.is("all are off now", Lines.roles(off), "0000");
        Due.is("with none on", Due.levels(off, 25), "000000" + "1".repeat(19));
    }

    private static void stepsOfABrokenWire() {
        Due.sentence("Terms: broken for 14 steps (a pause comes behind them), a pause of 3 steps (then it is at rest)");
        int[][] due = {{1, 2}, {13, 2}, {14, 3}, {16, 3}, {17, 0}};
        for (int[] steps : due) {
            SharedWire x = new SharedWire();
            x.step(7, 8);
            x.step(steps[0], 0);
            Due.is("behind " + steps[0], x.wire(), steps[1]);
        }
        for (int steps = 1; steps <= 3; steps++) {
            SharedWire x = Lines.sendingFive(55);
            Due.is("behind the last bit", x.wire(), 3);
            x.step(steps, 0);
            Due.is("behind the last bit and " + steps, x.wire(), steps < 3 ? 3 : 0);
        }
    }
}
