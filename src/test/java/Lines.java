/** Frames that several tests send, with their bits on the wire as made outside the program. */
final class Lines {
    /** Short, 5, one byte 0xA5. */
    static final String FIVE = "0000010000101000001011010010101111011111001101111111111";
    static final int FIVE_STUFFED = 5;
    static final int FIVE_LAST_OF_IDENTIFIER = 12;
    static final int FIVE_LAST_OF_SIZE = 20;
    static final int FIVE_DELIMITER = 45;
    static final int FIVE_ANSWER = 46;
    static final int FIVE_END = 47;

    private Lines() {
    }

    /** Node 0 of a new object wants to send the frame, and the first bits have gone by. */
    static SharedWire sendingFive(int bits) {
        SharedWire x = new SharedWire();
        x.want(0, false, 5, 0xA5, 1);
        if (bits > 0) {
            x.step(bits, 0);
        }
        return x;
    }

    static String answered(String line) {
        int answer = line.length() - 9;
        return line.substring(0, answer) + "0" + line.substring(answer + 1);
    }

    /** What a node is, its counts, and its last fault. */
    static String told(SharedWire x, int node) {
        return x.node(node, 0) + " " + x.node(node, 1) + " " + x.node(node, 2) + " " + x.node(node, 6);
    }

    static String allTold(SharedWire x) {
        return told(x, 0) + ", " + told(x, 1) + ", " + told(x, 2) + ", " + told(x, 3);
    }

    /** Node 0 must want a frame: its first bit is spoilt so many times. */
    static void spoil(SharedWire x, int times) {
        for (int i = 0; i < times; i++) {
            x.step(1, 1);
            x.step(17, 0);
        }
    }
}
