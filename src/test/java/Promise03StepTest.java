/** Promise 3: step. What nodes do in a step is Terms', and has tests that are named after those. */
public final class Promise03StepTest {
    public static void main(String[] args) {
        stepsAre1To200();
        disturbedIs0To15();
        eitherWrongIsRefused();
        soManySteps();
        theLevelInTheLastOne();
        aBitForEachNode();
        disturbedInTheFirstStepAlone();
        disturbedIsOfNoUseWhereNothingIsSeen();
        Due.end();
    }

    private static void refuses(int steps, int disturbed) {
        Twins.refusedAlways("step(" + steps + ", " + disturbed + ")", IllegalArgumentException.class,
            x -> x.step(steps, disturbed));
    }

    private static void stepsAre1To200() {
        Due.sentence("Promise 3: so many steps (1 .. 200); IllegalArgumentException");
        for (Moment moment : Moment.values()) {
            for (int steps : new int[] {1, 200}) {
                String level = Due.answer(() -> moment.make().step(steps, 0));
                Due.isTrue(moment + ": step(" + steps + ", 0) is taken", level.equals("0") || level.equals("1"));
            }
        }
        refuses(0, 0);
        refuses(201, 0);
        refuses(-1, 0);
        for (int far : Twins.FAR) {
            refuses(far, 0);
        }
    }

    private static void disturbedIs0To15() {
        Due.sentence("Promise 3: disturbed (0 .. 15); IllegalArgumentException");
        SharedWire x = new SharedWire();
        Due.is("step(1, 0)", x.step(1, 0), 1);
        Due.is("step(1, 0): none sees 0", x.wire(), 0);
        Due.is("step(1, 15)", x.step(1, 15), 1);
        Due.is("step(1, 15): all see 0", Lines.roles(x), "2222");
        refuses(1, -1);
        refuses(1, 16);
        refuses(200, 16);
        for (int far : Twins.FAR) {
            refuses(1, far);
        }
    }

    private static void eitherWrongIsRefused() {
        Due.sentence("Promise 3: IllegalArgumentException for both");
        refuses(0, 16);
        refuses(201, -1);
    }

    private static SharedWire wantingThree() {
        SharedWire x = Lines.sendingFive(0);
        x.want(1, true, 77, -1, 8);
        x.want(2, false, 5, 0, 0);
        return x;
    }

    private static void soManySteps() {
        Due.sentence("Promise 3: so many steps");
        int[] counts = {1, 2, 3, 18, 55, 56, 58, 59, 100, 199, 200};
        for (int steps : counts) {
            for (int disturbed : new int[] {0, 1, 8}) {
                SharedWire many = wantingThree();
                SharedWire single = wantingThree();
                int level = single.step(1, disturbed);
                for (int i = 1; i < steps; i++) {
                    level = single.step(1, 0);
                }
                String what = "step(" + steps + ", " + disturbed + ")";
                Due.is(what, many.step(steps, disturbed), level);
                Due.is(what + ": the state behind it", Due.wireOf(many), Due.wireOf(single));
                Due.is(what + ": the levels from there on", Due.levels(many, 60), Due.levels(single, 60));
            }
        }
    }

    private static void theLevelInTheLastOne() {
        Due.sentence("Promise 3: the level in the last one");
        String line = Lines.answered(Lines.FIVE);
        for (int steps = 1; steps <= line.length(); steps++) {
            Due.is("step(" + steps + ", 0)", Lines.sendingFive(0).step(steps, 0), line.charAt(steps - 1) - '0');
        }
        Due.is("in the first one, seen otherwise by all", Lines.sendingFive(0).step(1, 15), 0);
        Due.is("at rest, seen otherwise by all", new SharedWire().step(1, 15), 1);
        SharedWire broken = Lines.sendingFive(0);
        Due.is("in the last 0 of a broken wire", broken.step(7, 1), 0);
        Due.is("in the first 1 of a broken wire", broken.step(1, 0), 1);
    }

    private static void aBitForEachNode() {
        Due.sentence("Promise 3: those nodes are disturbed whose bit (1 << node) is 1");
        for (int disturbed = 0; disturbed <= 15; disturbed++) {
            SharedWire resting = new SharedWire();
            resting.step(1, disturbed);
            SharedWire sending = Lines.wanting(15);
            sending.step(1, disturbed);
            for (int node = 0; node < 4; node++) {
                int is = disturbed >> node & 1;
                Due.is("at rest, " + disturbed + ", node " + node, resting.node(node, 0), 1 + is);
                Due.is("as a sender, " + disturbed + ", node " + node, sending.node(node, 1), 8 * is);
            }
            Due.is("at rest, " + disturbed, resting.wire(), disturbed == 0 ? 0 : 1);
            Due.is("as senders, " + disturbed, sending.wire(), disturbed == 0 ? 1 : 2);
        }
    }

    /** Node 1 alone sees a 0, then five 1; a sixth is a fault, with the seventh step. */
    private static void disturbedInTheFirstStepAlone() {
        Due.sentence("Promise 3: in the first of which those nodes are disturbed");
        SharedWire before = new SharedWire();
        before.step(6, 2);
        Due.is("step(6, 2)", Lines.allTold(before), "1 0 0 0, 2 0 0 0, 1 0 0 0, 1 0 0 0");
        SharedWire behind = new SharedWire();
        behind.step(7, 2);
        Due.is("step(7, 2)", Lines.allTold(behind), "1 0 0 0, 1 0 1 1, 1 0 0 0, 1 0 0 0");
        SharedWire last = new SharedWire();
        last.step(5, 0);
        last.step(1, 2);
        Due.is("not in a call before", Lines.allTold(last), "1 0 0 0, 2 0 0 0, 1 0 0 0, 1 0 0 0");
        last.step(5, 0);
        Due.is("nor in one behind", Lines.allTold(last), "1 0 0 0, 2 0 0 0, 1 0 0 0, 1 0 0 0");
        last.step(1, 0);
        Due.is("until it finds the fault", Lines.allTold(last), "1 0 0 0, 1 0 1 1, 1 0 0 0, 1 0 0 0");
    }

    private static void disturbedIsOfNoUseWhereNothingIsSeen() {
        Due.sentence("Promise 3: of no use where they see nothing");
        SharedWire x = Lines.sendingFive(3);
        x.step(1, 1);
        for (int i = 0; i < 17; i++) {
            Due.is("level of step " + i + " behind the fault", x.step(1, 15), i < 6 ? 0 : 1);
            Due.is("nodes in step " + i, Lines.allTold(x), "1 8 0 4, 1 0 0 0, 1 0 0 0, 1 0 0 0");
        }
        Due.is("at rest", x.wire(), 0);
        SharedWire off = Lines.withOff(15);
        Due.is("all are off", off.step(1, 15), 1);
        Due.is("all are off: at rest still", off.wire(), 0);
        SharedWire one = Lines.withOff(4);
        one.step(1, 4);
        Due.is("one is off: at rest still", one.wire(), 0);
        one.step(1, 6);
        Due.is("another is not", Lines.roles(one), "1201");
    }
}
