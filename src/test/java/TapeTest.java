/** Promises 8 to 12: tape, put, bit, flip and wipe. */
public final class TapeTest {
    /** Made from the document outside the program: the frames' bits as they come on the wire. */
    private static final String[] LINES = {
        "0000010000101000001011010010101111011111001101111111111",
        "00000100000100000100000100000100000100001111111111",
        "01111101111101000001000100111001011111111111111",
        "00000100000100110000010000010000010000010000011000110000100001111111111",
        "0111110111110111110111110111110111110100010001111101111101111101111101111101111101"
            + "1111011111011111011111011111011111011110011011011010011111111111",
        "0001001000110001000001000001100000101000001001100000110000010010100000111000001011"
            + "1000010001100100111011111111111111",
        "010010001101110001010110011110000010001000010010001101001100110100010011111111111",
        "000001000100100000100111110000011000001111111111",
    };
    private static final int LONGEST = (1 << 29) - 1;

    public static void main(String[] args) {
        lines();
        tapeThrows();
        tapeTakesWhatIsOffered();
        putting();
        puttingTooMuch();
        bits();
        flipping();
        wiping();
        Due.end();
    }

    private static void lines() {
        line(0, false, 5, 0xA5, 1);
        line(1, false, 0, 0, 0);
        line(2, false, 2047, 0, 0);
        line(3, true, 0, 0, 0);
        line(4, true, LONGEST, -1, 8);
        line(5, false, 0x123, 0x0807060504030201L, 8);
        line(6, true, 0x12345678, 0x3412, 2);
        // The check of this one ends with five alike: nothing is stuffed in behind.
        line(7, false, 9, 0, 0);
    }

    private static void line(int i, boolean isLong, int identifier, long data, int n) {
        SharedWire x = new SharedWire();
        x.want(i % 4, isLong, identifier, data, n);
        Due.is("length of line " + i, x.tape(i % 4), LINES[i].length());
        Due.is("line " + i, Due.tapeOf(x), LINES[i]);
        Due.is("read() of line " + i, x.read(), 0);
        Due.is("it is wanted still", x.node(i % 4, 3), 1);
    }

    private static void tapeThrows() {
        SharedWire x = new SharedWire();
        x.put(5, 3);
        String before = Due.stateOf(x);
        int[] nodes = {-1, 4, Integer.MIN_VALUE, Integer.MAX_VALUE};
        for (int node : nodes) {
            Due.isThrown("tape(" + node + ")", IndexOutOfBoundsException.class, () -> x.tape(node));
        }
        for (int node = 0; node < 4; node++) {
            int who = node;
            Due.isThrown("tape(" + node + ")", java.util.NoSuchElementException.class, () -> x.tape(who));
        }
        Due.is("state behind throwing tapes", Due.stateOf(x), before);
    }

    private static void tapeTakesWhatIsOffered() {
        SharedWire x = new SharedWire();
        for (int i = 0; i < 3; i++) {
            x.put(-1, 64);
        }
        x.want(1, false, 5, 0xA5, 1);
        Due.is("over a longer tape", x.tape(1), 55);
        Due.is("over a longer tape", Due.tapeOf(x), LINES[0]);
        x.want(1, false, 0, 0, 0);
        Due.is("one that comes before", x.tape(1), 50);
        Due.is("one that comes before", Due.tapeOf(x), LINES[1]);
        x.want(1, true, 0, 0, 0);
        Due.is("one that comes behind it", x.tape(1), 50);
        x.step(3, 0);
        Due.is("the wire leaves the tape", Due.tapeOf(x), LINES[1]);
        Due.is("while it is sent", x.tape(1), 50);
        x.step(200, 0);
        x.step(200, 0);
        Due.isThrown("when all are sent", java.util.NoSuchElementException.class, () -> x.tape(1));
        Due.is("the tape is left", Due.tapeOf(x), LINES[1]);
    }

    private static void putting() {
        SharedWire x = new SharedWire();
        Due.isTrue("put(6, 4)", x.put(6, 4));
        Due.is("lowest first", Due.tapeOf(x), "0110");
        Due.isTrue("put(-2, 3)", x.put(-2, 3));
        Due.is("others are not looked at", Due.tapeOf(x), "0110011");
        Due.isTrue("put of 64", x.put(Long.MIN_VALUE, 64));
        Due.is("64 bits", Due.tapeOf(x), "0110011" + "0".repeat(63) + "1");
    }

    private static void puttingTooMuch() {
        SharedWire x = new SharedWire();
        x.put(1, 1);
        String before = Due.stateOf(x);
        int[] wrong = {0, -1, 65, Integer.MIN_VALUE, Integer.MAX_VALUE};
        for (int n : wrong) {
            Due.isTrue("put of " + n + " is refused", !x.put(-1, n));
        }
        Due.is("state behind refused puts", Due.stateOf(x), before);
        for (int i = 0; i < 3; i++) {
            Due.isTrue("put of 64 more", x.put(0, 64));
        }
        Due.isTrue("193 and 8 are too much", !x.put(-1, 8));
        Due.is("nothing is changed", Due.tapeOf(x), "1" + "0".repeat(192));
        Due.isTrue("193 and 7 are not", x.put(-1, 7));
        Due.isTrue("none behind 200", !x.put(0, 1));
        Due.is("200 bits", Due.tapeOf(x), "1" + "0".repeat(192) + "1111111");
        Due.is("bit 199", x.bit(199), 1);
        Due.is("wipe() of 200", x.wipe(), 200);
    }

    private static void bits() {
        SharedWire x = new SharedWire();
        int[] never = {-1, 200, Integer.MIN_VALUE, Integer.MAX_VALUE};
        Due.isThrown("bit(0) of none", IndexOutOfBoundsException.class, () -> x.bit(0));
        x.put(2, 3);
        for (int i : never) {
            Due.isThrown("bit(" + i + ")", IndexOutOfBoundsException.class, () -> x.bit(i));
        }
        Due.is("bit(0)", x.bit(0), 0);
        Due.is("bit(1)", x.bit(1), 1);
        Due.is("bit(2)", x.bit(2), 0);
        Due.isThrown("bit(3) of three", IndexOutOfBoundsException.class, () -> x.bit(3));
        x.put(-1, 64);
        x.wipe();
        Due.isThrown("bit(0) of a wiped tape", IndexOutOfBoundsException.class, () -> x.bit(0));
    }

    private static void flipping() {
        SharedWire x = new SharedWire();
        Due.isThrown("flip(0) of none", IndexOutOfBoundsException.class, () -> flipped(x, 0));
        x.put(2, 3);
        int[] wrong = {-1, 3, 200, Integer.MIN_VALUE, Integer.MAX_VALUE};
        for (int i : wrong) {
            Due.isThrown("flip(" + i + ")", IndexOutOfBoundsException.class, () -> flipped(x, i));
        }
        Due.is("nothing is changed", Due.tapeOf(x), "010");
        x.flip(0);
        x.flip(1);
        Due.is("two flipped", Due.tapeOf(x), "100");
        x.flip(1);
        x.flip(2);
        Due.is("one flipped twice", Due.tapeOf(x), "111");
    }

    private static long flipped(SharedWire x, int i) {
        x.flip(i);
        return i;
    }

    private static void wiping() {
        SharedWire x = new SharedWire();
        Due.is("wipe() of none", x.wipe(), 0);
        x.put(-1, 17);
        Due.is("wipe() of 17", x.wipe(), 17);
        Due.is("wipe() again", x.wipe(), 0);
        x.put(0, 2);
        Due.is("what was there is gone", Due.tapeOf(x), "00");
    }
}
