/** Promises 3 and 5: the steps, and the wire at rest, busy, broken and in the pause. */
public final class StepTest {
    public static void main(String[] args) {
        wrongArguments();
        atRest();
        oneFrame();
        brokenAndPause();
        nothingIsSeenWhileBroken();
        nothingIsSentInThePause();
        disturbedInTheFirstStepAlone();
        restIsDisturbed();
        manyStepsAreSingleOnes();
        Due.end();
    }

    private static void wrongArguments() {
        SharedWire x = Lines.sendingFive(7);
        String before = Due.stateOf(x);
        int[] steps = {0, -1, 201, Integer.MIN_VALUE, Integer.MAX_VALUE};
        for (int wrong : steps) {
            Due.isThrown("step(" + wrong + ", 0)", IllegalArgumentException.class, () -> x.step(wrong, 0));
        }
        int[] disturbed = {-1, 16, Integer.MIN_VALUE, Integer.MAX_VALUE};
        for (int wrong : disturbed) {
            Due.isThrown("step(1, " + wrong + ")", IllegalArgumentException.class, () -> x.step(1, wrong));
        }
        Due.is("state behind wrong steps", Due.stateOf(x), before);
        Due.is("the wire goes on where it was", Due.levels(x, 48), Lines.answered(Lines.FIVE).substring(7));
    }

    private static void atRest() {
        SharedWire x = new SharedWire();
        Due.is("step(1, 0) at rest", x.step(1, 0), 1);
        Due.is("step(200, 0) at rest", x.step(200, 0), 1);
        Due.is("wire() at rest", x.wire(), 0);
        Due.is("nodes at rest", Lines.allTold(x), "1 0 0 0, 1 0 0 0, 1 0 0 0, 1 0 0 0");
    }

    private static void oneFrame() {
        SharedWire x = Lines.sendingFive(0);
        Due.is("wire() before", x.wire(), 0);
        String line = Lines.answered(Lines.FIVE);
        for (int i = 0; i < line.length(); i++) {
            Due.is("level " + i, x.step(1, 0), line.charAt(i) - '0');
            boolean ended = i == line.length() - 1;
            Due.is("wire() behind " + i, x.wire(), ended ? 3 : 1);
            Due.is("node 0 behind " + i, x.node(0, 0), ended ? 1 : 3);
            Due.is("node 3 behind " + i, x.node(3, 0), ended ? 1 : 2);
        }
        Due.is("it is sent", x.node(0, 4), 1);
        Due.is("it is not wanted any more", x.node(0, 3), 0);
        Due.is("its sender does not receive it", x.node(0, 5), 0);
        for (int i = 0; i < 3; i++) {
            Due.is("wire() in the pause", x.wire(), 3);
            Due.is("level in the pause", x.step(1, 0), 1);
        }
        Due.is("wire() behind the pause", x.wire(), 0);
    }

    private static void brokenAndPause() {
        SharedWire x = Lines.sendingFive(3);
        Due.is("the level is not disturbed", x.step(1, 1), 0);
        Due.is("all are neither", Lines.allTold(x), "1 8 0 4, 1 0 0 0, 1 0 0 0, 1 0 0 0");
        String levels = "00000011111111";
        for (int i = 0; i < 14; i++) {
            Due.is("wire() while broken", x.wire(), 2);
            Due.is("level while broken " + i, x.step(1, 0), levels.charAt(i) - '0');
        }
        for (int i = 0; i < 3; i++) {
            Due.is("wire() in the pause", x.wire(), 3);
            Due.is("level in the pause", x.step(1, 0), 1);
        }
        Due.is("wire() at rest again", x.wire(), 0);
        Due.is("the frame comes again", Due.levels(x, 55), Lines.answered(Lines.FIVE));
        Due.is("now it is sent", x.node(0, 4), 1);
    }

    private static void nothingIsSeenWhileBroken() {
        SharedWire x = Lines.sendingFive(3);
        x.step(1, 1);
        for (int i = 0; i < 17; i++) {
            Due.is("level " + i, x.step(1, 15), i < 6 ? 0 : 1);
            Due.is("nodes " + i, Lines.allTold(x), "1 8 0 4, 1 0 0 0, 1 0 0 0, 1 0 0 0");
        }
        Due.is("wire() at rest again", x.wire(), 0);
    }

    private static void nothingIsSentInThePause() {
        SharedWire x = Lines.sendingFive(55);
        x.want(1, false, 0, 0, 0);
        Due.is("level in the pause", x.step(3, 0), 1);
        Due.is("node 1 in the pause", x.node(1, 0), 1);
        Due.is("level behind the pause", x.step(1, 0), 0);
        Due.is("node 1 behind the pause", x.node(1, 0), 3);
    }

    private static void disturbedInTheFirstStepAlone() {
        SharedWire x = Lines.sendingFive(0);
        x.step(5, 8);
        Due.is("node 3 has missed the first bit, and read the others", x.node(3, 0), 2);
        SharedWire y = Lines.sendingFive(0);
        y.step(1, 8);
        Due.is("node 3 has missed the first bit", y.node(3, 0), 1);
        SharedWire z = Lines.sendingFive(40);
        Due.is("an answer is not disturbed", z.step(15, 0), 1);
        Due.is("it is sent", z.node(0, 4), 1);
        // The five 1 behind the 0 that node 1 alone has seen are right, a sixth is not.
        SharedWire w = new SharedWire();
        w.step(6, 2);
        Due.is("node 1 reads", w.node(1, 0), 2);
        w.step(1, 0);
        Due.is("node 1 has found a fault", Lines.told(w, 1), "1 0 1 1");
    }

    private static void restIsDisturbed() {
        SharedWire x = new SharedWire();
        Due.is("the level is 1", x.step(1, 4), 1);
        Due.is("wire() is busy", x.wire(), 1);
        Due.is("node 2 is a reader", Lines.allTold(x), "1 0 0 0, 1 0 0 0, 2 0 0 0, 1 0 0 0");
        x.want(0, false, 0, 0, 0);
        Due.is("nobody begins while it is busy", x.step(5, 0), 1);
        Due.is("node 0 waits", x.node(0, 0), 1);
        x.step(1, 0);
        Due.is("wire() is broken", x.wire(), 2);
        Due.is("node 2 counts", Lines.allTold(x), "1 0 0 0, 1 0 0 0, 1 0 1 1, 1 0 0 0");
        SharedWire all = new SharedWire();
        Due.is("the level is 1", all.step(1, 15), 1);
        Due.is("all are readers", Lines.allTold(all), "2 0 0 0, 2 0 0 0, 2 0 0 0, 2 0 0 0");
    }

    private static void manyStepsAreSingleOnes() {
        SharedWire x = Lines.sendingFive(0);
        SharedWire y = Lines.sendingFive(0);
        for (int steps = 1; steps < 40; steps++) {
            int level = 1;
            for (int i = 0; i < steps; i++) {
                level = x.step(1, i == 0 ? steps % 16 : 0);
            }
            Due.is("the level of the last of " + steps, y.step(steps, steps % 16), level);
            Due.is("the state behind " + steps, Due.stateOf(y), Due.stateOf(x));
        }
    }
}
