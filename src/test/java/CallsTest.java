/** An object is used for at most 512 calls: the last of them is answered as the first. */
public final class CallsTest {
    private static final int CALLS = 512;

    public static void main(String[] args) {
        frames();
        faults();
        looks();
        Due.end();
    }

    private static void frames() {
        Due.sentence("What it is: at most 512 calls, each second one a frame");
        SharedWire x = new SharedWire();
        for (int i = 0; i < (CALLS - 2) / 2; i++) {
            x.want(0, true, i, -1, 8);
            x.step(200, 0);
        }
        Due.is("call 511: sent", x.node(0, 4), 255);
        Due.is("call 512: the last", x.received(3, 0), 254);
    }

    private static void faults() {
        Due.sentence("What it is: at most 512 calls, all but one a fault");
        SharedWire x = new SharedWire();
        for (int i = 1; i < CALLS; i++) {
            x.step(24, 8);
        }
        Due.is("call 512: the count", x.node(3, 2), CALLS - 1);
    }

    private static void looks() {
        Due.sentence("What it is: at most 512 calls, refused ones too");
        SharedWire x = Lines.sendingFive(0);
        for (int i = 2; i < CALLS; i++) {
            Due.isThrown("call " + i, IndexOutOfBoundsException.class, () -> x.bit(0));
        }
        Due.is("call 512: step(1, 0)", x.step(1, 0), 0);
    }
}
