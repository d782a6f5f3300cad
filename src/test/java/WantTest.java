/** Promises 1 and 2: a new object, and what nodes want and offer. */
public final class WantTest {
    private static final int LONGEST = (1 << 29) - 1;

    public static void main(String[] args) {
        newObject();
        counting();
        wrongArguments();
        firstNamedIsThrown();
        order();
        sameOnesComeInTurn();
        wantedBetweenFrames();
        dataAboveDoNotMatter();
        offNodesMayWant();
        Due.end();
    }

    private static void newObject() {
        SharedWire x = new SharedWire();
        Due.is("wire() of a new object", x.wire(), 0);
        Due.is("wipe() of a new object", x.wipe(), 0);
        Due.is("read() of a new object", x.read(), 4000);
        String none = "throws java.util.NoSuchElementException";
        for (int node = 0; node < 4; node++) {
            Due.is("new node " + node, Due.nodeOf(x, node),
                "node 1 0 0 0 0 0 0 received " + none + " " + none + " " + none + " " + none);
        }
    }

    private static void counting() {
        SharedWire x = new SharedWire();
        Due.is("first", x.want(3, false, 0, 0, 0), 1);
        Due.is("second", x.want(3, false, 2047, -1, 8), 2);
        Due.is("third", x.want(3, true, 0, 0, 0), 3);
        Due.is("fourth", x.want(3, true, LONGEST, Long.MIN_VALUE, 8), 4);
        Due.is("of another node", x.want(2, false, 0, 0, 0), 1);
        String before = Due.stateOf(x);
        Due.isThrown("fifth", UnsupportedOperationException.class, () -> x.want(3, false, 0, 0, 0));
        Due.is("state behind the fifth", Due.stateOf(x), before);
        Due.is("wanted", x.node(3, 3), 4);
    }

    private static void wrongArguments() {
        SharedWire x = new SharedWire();
        String before = Due.stateOf(x);
        int[] nodes = {-1, 4, Integer.MIN_VALUE, Integer.MAX_VALUE};
        for (int node : nodes) {
            Due.isThrown("want of node " + node, IndexOutOfBoundsException.class, () -> x.want(node, false, 0, 0, 0));
        }
        int[] shorts = {-1, 2048, Integer.MIN_VALUE, Integer.MAX_VALUE};
        for (int wrong : shorts) {
            Due.isThrown("short " + wrong, IllegalArgumentException.class, () -> x.want(0, false, wrong, 0, 0));
        }
        int[] longs = {-1, LONGEST + 1, Integer.MIN_VALUE, Integer.MAX_VALUE};
        for (int wrong : longs) {
            Due.isThrown("long " + wrong, IllegalArgumentException.class, () -> x.want(0, true, wrong, 0, 0));
        }
        int[] sizes = {-1, 9, Integer.MIN_VALUE, Integer.MAX_VALUE};
        for (int wrong : sizes) {
            Due.isThrown("n " + wrong, IllegalArgumentException.class, () -> x.want(0, false, 0, 0, wrong));
        }
        Due.is("state behind wrong wants", Due.stateOf(x), before);
    }

    private static void firstNamedIsThrown() {
        SharedWire x = new SharedWire();
        for (int i = 0; i < 4; i++) {
            x.want(0, false, i, 0, 0);
        }
        Due.isThrown("all wrong", IndexOutOfBoundsException.class, () -> x.want(4, false, -1, 0, 9));
        Due.isThrown("identifier, and full", IllegalArgumentException.class, () -> x.want(0, false, 2048, 0, 0));
        Due.isThrown("n, and full", IllegalArgumentException.class, () -> x.want(0, false, 0, 0, 9));
        Due.isThrown("full alone", UnsupportedOperationException.class, () -> x.want(0, false, 0, 0, 0));
    }

    /** Of each pair the second one comes first, though it was wanted later. */
    private static void order() {
        offersSecond(false, 5, false, 4);
        offersSecond(true, 5 << 18, false, 5);
        offersSecond(true, 5 << 18 | 7, true, 5 << 18 | 6);
        offersSecond(false, 6, true, 5 << 18 | 0x3ffff);
        offersSecond(true, LONGEST, false, 2047);
        offersSecond(true, 1 << 18, true, 0x3ffff);
        offersSecond(false, 1, true, 0);
        offersSecond(true, LONGEST, true, LONGEST - 1);
    }

    private static void offersSecond(boolean isLong, int identifier, boolean isLong2, int identifier2) {
        SharedWire both = new SharedWire();
        both.want(0, isLong, identifier, 1, 1);
        both.want(0, isLong2, identifier2, 2, 1);
        both.tape(0);
        SharedWire alone = new SharedWire();
        alone.want(1, isLong2, identifier2, 2, 1);
        alone.tape(1);
        Due.is("offered of " + identifier + " and " + identifier2, Due.tapeOf(both), Due.tapeOf(alone));
    }

    private static void sameOnesComeInTurn() {
        SharedWire x = new SharedWire();
        x.want(0, false, 9, 1, 1);
        x.want(0, true, 9 << 18, 2, 1);
        x.want(0, false, 9, 3, 1);
        x.want(0, true, 9 << 18, 4, 1);
        int[] due = {1, 3, 2, 4};
        for (int i = 0; i < 4; i++) {
            stepUntilReceived(x, i + 1);
            Due.is("frame " + i + " in turn", x.received(1, 3), due[i]);
        }
        Due.is("wanted at the end", x.node(0, 3), 0);
    }

    /** What is wanted when others have been sent leaves the ones that wait as they are. */
    private static void wantedBetweenFrames() {
        SharedWire x = new SharedWire();
        for (int i = 1; i <= 4; i++) {
            x.want(0, false, i, i, 1);
        }
        for (int i = 1; i <= 12; i++) {
            stepUntilReceived(x, i);
            Due.is("frame " + i, Due.receivedOf(x, 1), i + " 0 1 " + i);
            Due.is("a place is free behind frame " + i, x.want(0, false, i + 4, i + 4, 1), 4);
        }
    }

    private static void stepUntilReceived(SharedWire x, int frames) {
        for (int i = 0; i < 200 && x.node(1, 5) < frames; i++) {
            x.step(1, 0);
        }
    }

    private static void dataAboveDoNotMatter() {
        SharedWire x = new SharedWire();
        x.want(0, false, 77, 0xFFFFFFFFFFFF1234L, 2);
        x.tape(0);
        SharedWire y = new SharedWire();
        y.want(0, false, 77, 0x1234L, 2);
        y.tape(0);
        Due.is("data above", Due.tapeOf(x), Due.tapeOf(y));
        x.step(200, 0);
        Due.is("data received", x.received(2, 3), 0x1234L);
    }

    private static void offNodesMayWant() {
        SharedWire x = new SharedWire();
        x.want(0, false, 3, 0, 1);
        for (int i = 0; i < 32; i++) {
            x.step(1, 1);
            x.step(17, 0);
        }
        Due.is("it is off", x.node(0, 0), 0);
        Due.is("want of an off node", x.want(0, false, 2, 0, 0), 2);
        Due.is("tape of an off node", x.tape(0), 47);
        Due.is("nobody sends", x.step(200, 0), 1);
        Due.is("it wants still", x.node(0, 3), 2);
    }
}
