/** Promise 4: join. */
public final class Promise04JoinTest {
    public static void main(String[] args) {
        nodesAre0To3();
        falseWhenItWasOn();
        eachNodeOnce();
        withCountsOf0();
        itTakes32FaultsAnew();
        itWantsWhatItWanted();
        allElseIsLeft();
        joinAtRest();
        joinWhileBusy();
        joinWhileBroken();
        joinInThePause();
        Due.end();
    }

    private static void nodesAre0To3() {
        Due.sentence("Promise 4: IndexOutOfBoundsException: there is no such node");
        for (int node : new int[] {-1, 4, Integer.MIN_VALUE, Integer.MAX_VALUE}) {
            Twins.refusedAlways("join(" + node + ")", IndexOutOfBoundsException.class, x -> Due.number(x.join(node)));
        }
        Twins.refused("join(4) with all off", IndexOutOfBoundsException.class, () -> Lines.withOff(15),
            x -> Due.number(x.join(4)));
    }

    private static void falseWhenItWasOn() {
        Due.sentence("Promise 4: false when it was on");
        for (int node = 1; node < 4; node++) {
            int who = node;
            Twins.answersAlways("join(" + node + ")", 0, x -> Due.number(x.join(who)));
        }
        Twins.changesNothing("join(0) of a sender", "0", Moment.SENDING::make, x -> Due.number(x.join(0)));
        Twins.changesNothing("join(0) with a count of 8", "0", Moment.JUST_BROKEN::make, x -> Due.number(x.join(0)));
        Twins.changesNothing("join(0) with a count of 248", "0", Promise04JoinTest::justOn, x -> Due.number(x.join(0)));
        Twins.changesNothing("join(2) of a reader", "0", Moment.READING_ALONE::make, x -> Due.number(x.join(2)));
    }

    private static SharedWire justOn() {
        SharedWire x = Lines.sendingFive(0);
        Lines.spoil(x, 31);
        return x;
    }

    private static void eachNodeOnce() {
        Due.sentence("Promise 4: a node is on again");
        SharedWire x = Lines.withOff(15);
        String[] due = {"1000", "1100", "1110", "1111"};
        for (int node = 0; node < 4; node++) {
            Due.is("join(" + node + ")", Due.number(x.join(node)), 1);
            Due.is("that node alone, behind join(" + node + ")", Lines.roles(x), due[node]);
            Due.is("join(" + node + ") again", Due.number(x.join(node)), 0);
        }
    }

    private static void withCountsOf0() {
        Due.sentence("Promise 4: with counts of 0");
        SharedWire x = new SharedWire();
        x.step(7, 3);
        x.step(17, 0);
        Due.is("a fault each as readers", Lines.allTold(x), "1 0 1 1, 1 0 1 1, 1 0 0 0, 1 0 0 0");
        x.want(0, false, 5, 0xA5, 1);
        Lines.spoil(x, 32);
        Due.is("32 as a sender", Lines.told(x, 0), "0 256 1 4");
        Due.is("join(0)", Due.number(x.join(0)), 1);
        Due.is("both counts are 0", Lines.told(x, 0), "1 0 0 4");
        Due.is("another node's are left", Lines.told(x, 1), "1 0 1 1");
    }

    private static void itTakes32FaultsAnew() {
        Due.sentence("Promise 4: with counts of 0, so that it is off again above 255 alone");
        SharedWire x = Lines.withOff(1);
        x.join(0);
        Lines.spoil(x, 31);
        Due.is("31 faults", Lines.told(x, 0), "1 248 0 4");
        Lines.spoil(x, 1);
        Due.is("32 faults", Lines.told(x, 0), "0 256 0 4");
        Due.is("join(0) once more", Due.number(x.join(0)), 1);
        Due.is("on", Lines.told(x, 0), "1 0 0 4");
    }

    private static void itWantsWhatItWanted() {
        Due.sentence("Promise 4: it wants what it wanted");
        SharedWire x = Lines.withOff(1);
        x.want(0, false, 5, 1, 1);
        x.want(0, false, 4, 2, 1);
        x.want(0, true, 4 << 18, 3, 1);
        x.join(0);
        Due.is("four", x.node(0, 3), 4);
        long[] data = {2, 3, 0xA5, 1};
        for (int i = 0; i < 4; i++) {
            for (int k = 0; k < 20 && x.node(1, 5) <= i; k++) {
                x.step(5, 0);
            }
            Due.is("frame " + i, x.received(1, 3), data[i]);
        }
        Due.is("none is left", x.node(0, 3), 0);
    }

    private static void allElseIsLeft() {
        Due.sentence("Promise 4: a node is on again, with counts of 0: nothing else of it is changed");
        SharedWire x = new SharedWire();
        x.want(1, true, 9, 0x77, 1);
        x.step(200, 0);
        x.want(0, false, 5, 0xA5, 1);
        x.step(58, 0);
        x.want(0, false, 5, 0xA5, 1);
        Lines.spoil(x, 32);
        x.put(1, 2);
        Due.is("off", Due.nodeOf(x, 0), "node 0 256 0 1 1 1 4 received 9 1 1 119");
        x.join(0);
        Due.is("on", Due.nodeOf(x, 0), "node 1 0 0 1 1 1 4 received 9 1 1 119");
        Due.is("the tape", Due.tapeOf(x), "10");
        Due.is("the wire", x.wire(), 0);
    }

    private static void joinAtRest() {
        Due.sentence("Promise 4: at once, at rest");
        SharedWire x = Lines.withOff(1);
        Due.is("it does not send while it is off", x.step(3, 0), 1);
        x.join(0);
        Due.is("it sends with the next step", Due.levels(x, 55), Lines.answered(Lines.FIVE));
        Due.is("it is sent", x.node(0, 4), 1);
        SharedWire y = Lines.withOff(1);
        y.want(1, false, 5, 0, 0);
        y.join(0);
        y.step(1, 1);
        Due.is("it sees what it is shown", Lines.allTold(y), "1 8 0 4, 1 0 0 0, 1 0 0 0, 1 0 0 0");
    }

    private static void joinWhileBusy() {
        Due.sentence("Promise 4: as to the wire, it is neither sender nor reader, while it is busy");
        SharedWire x = Lines.withOff(1);
        x.want(1, false, 0x555, 0x5A, 1);
        x.step(1, 0);
        Due.is("join(0)", Due.number(x.join(0)), 1);
        Due.is("neither", Lines.roles(x), "1322");
        Due.is("it sees a 1", x.step(1, 0), 1);
        Due.is("neither still", Lines.roles(x), "1322");
        Due.is("it sees a 0", x.step(1, 0), 0);
        Due.is("a reader", Lines.roles(x), "2322");
        SharedWire last = Lines.withOff(1);
        last.want(1, false, 5, 0xA5, 1);
        last.step(54, 0);
        last.join(0);
        last.step(1, 0);
        Due.is("with the last bit to come it receives nothing", Lines.ofAll(last, 5), "0 0 1 1");
        Due.is("and the pause begins", last.wire(), 3);
        Due.is("it sends behind the pause", last.step(4, 0), 0);
        Due.is("as a sender", Lines.roles(last), "3222");
    }

    private static void joinWhileBroken() {
        Due.sentence("Promise 4: as to the wire, it is neither sender nor reader, while it is broken");
        SharedWire x = justOn();
        x.step(1, 1);
        Due.is("off with this step", Lines.told(x, 0), "0 256 0 4");
        Due.is("join(0)", Due.number(x.join(0)), 1);
        Due.is("broken still", x.wire(), 2);
        Due.is("neither", Lines.told(x, 0), "1 0 0 4");
        Due.is("it waits for the pause's end", x.step(17, 0), 1);
        Due.is("neither", x.node(0, 0), 1);
        Due.is("then it sends", x.step(1, 0), 0);
        Due.is("a sender", x.node(0, 0), 3);
    }

    private static void joinInThePause() {
        Due.sentence("Promise 4: as to the wire, it is neither sender nor reader, in a pause");
        SharedWire x = justOn();
        x.step(1, 1);
        x.step(16, 0);
        Due.is("join(0) before the last step of the pause", Due.number(x.join(0)), 1);
        Due.is("the pause", x.wire(), 3);
        Due.is("it does not send in it", x.step(1, 0), 1);
        Due.is("neither", x.node(0, 0), 1);
        Due.is("then it sends", x.step(1, 0), 0);
    }
}
