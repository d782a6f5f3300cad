/** Frames that several tests send, with their bits on the wire as made outside the program. */
final class Lines {
    static final int LONGEST_IDENTIFIER = (1 << 29) - 1;

    /** Short, 5, one byte 0xA5. */
    static final String FIVE = "0000010000101000001011010010101111011111001101111111111";
    static final int FIVE_STUFFED = 5;
    static final int FIVE_LAST_OF_IDENTIFIER = 12;
    static final int FIVE_LAST_OF_SIZE = 20;
    static final int FIVE_DELIMITER = 45;
    static final int FIVE_ANSWER = 46;
    static final int FIVE_END = 47;

    private Lines() {
    }

    /** Node 0 of a new object wants to send the frame, and the first bits have gone by. */
    static SharedWire sendingFive(int bits) {
        SharedWire x = new SharedWire();
        x.want(0, false, 5, 0xA5, 1);
        if (bits > 0) {
            x.step(bits, 0);
        }
        return x;
    }

    static String answered(String line) {
        return flipped(line, line.length() - 9);
    }

    static String flipped(String bits, int i) {
        return bits.substring(0, i) + (bits.charAt(i) == '0' ? '1' : '0') + bits.substring(i + 1);
    }

    /** What a node is, its counts, and its last fault. */
    static String told(SharedWire x, int node) {
        return x.node(node, 0) + " " + x.node(node, 1) + " " + x.node(node, 2) + " " + x.node(node, 6);
    }

    static String allTold(SharedWire x) {
        return told(x, 0) + ", " + told(x, 1) + ", " + told(x, 2) + ", " + told(x, 3);
    }

    static String roles(SharedWire x) {
        return "" + x.node(0, 0) + x.node(1, 0) + x.node(2, 0) + x.node(3, 0);
    }

    /** Of each node the same, one digit behind the other. */
    static String ofAll(SharedWire x, int what) {
        return x.node(0, what) + " " + x.node(1, what) + " " + x.node(2, what) + " " + x.node(3, what);
    }

    /** Node 0 must want a frame: its first bit is spoilt so many times. */
    static void spoil(SharedWire x, int times) {
        spoil(x, times, 1);
    }

    /** The same for each node whose bit is 1, each of which must want a frame. */
    static void spoil(SharedWire x, int times, int nodes) {
        for (int i = 0; i < times; i++) {
            x.step(18, nodes);
        }
    }

    /** A new object in which those nodes want the frame 5. */
    static SharedWire wanting(int nodes) {
        SharedWire x = new SharedWire();
        for (int node = 0; node < 4; node++) {
            if ((nodes >> node & 1) == 1) {
                x.want(node, false, 5, 0xA5, 1);
            }
        }
        return x;
    }

    /** The same, and they are off. */
    static SharedWire withOff(int nodes) {
        SharedWire x = wanting(nodes);
        spoil(x, 32, nodes);
        return x;
    }

    /** The lowest n bytes of data. */
    static long lowest(long data, int n) {
        return n == 8 ? data : data & (1L << 8 * n) - 1;
    }

    static String frame(boolean isLong, int identifier, long data, int n) {
        return identifier + " " + (isLong ? 1 : 0) + " " + n + " " + lowest(data, n);
    }
}
