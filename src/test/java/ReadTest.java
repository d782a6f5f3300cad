/** Promise 13: read. The lines were made from the document outside the program. */
public final class ReadTest {
    /** Short, 5, one byte 0xA5. */
    private static final String LINE = "0000010000101000001011010010101111011111001101111111111";
    private static final int DELIMITER = 45;
    /** Its check ends with five alike. */
    private static final String FIVE_AT_END = "000001000100100000100111110000011000001111111111";

    public static void main(String[] args) {
        whole();
        tooEarly();
        behind();
        stuffing();
        form();
        check();
        looseBits();
        manyBytes();
        leavesTheTape();
        Due.end();
    }

    private static void reads(String what, String bits, int due) {
        SharedWire x = new SharedWire();
        Due.putText(x, bits);
        Due.is("read() of " + what, x.read(), due);
    }

    private static String flipped(String bits, int i) {
        return bits.substring(0, i) + (bits.charAt(i) == '0' ? '1' : '0') + bits.substring(i + 1);
    }

    private static void whole() {
        reads("a line", LINE, 0);
        reads("a line, answered", flipped(LINE, DELIMITER + 1), 0);
        reads("a line with five alike at the end of the check", FIVE_AT_END, 0);
    }

    private static void tooEarly() {
        for (int length = 0; length < LINE.length(); length++) {
            reads("the first " + length, LINE.substring(0, length), 4000 + length);
        }
        for (int length = 0; length < FIVE_AT_END.length(); length++) {
            reads("the first " + length, FIVE_AT_END.substring(0, length), 4000 + length);
        }
    }

    private static void behind() {
        reads("a line and 1", LINE + "1", 5055);
        reads("a line and 0", LINE + "0", 5055);
        reads("a line, and one again", LINE + LINE, 5055);
    }

    private static void stuffing() {
        reads("five 0", "00000", 4005);
        reads("six 0", "000000", 1005);
        reads("five 1 behind 0", "011111", 4006);
        reads("six 1 behind 0", "0111111", 1006);
        reads("stuffed ones are counted", "00000100000", 4011);
        reads("one too many behind a stuffed one", "000001" + "00000" + "0", 1011);
        reads("four behind a stuffed one of the same kind", "00000" + "1" + "1111" + "1", 1010);
        // In the check too, and behind the bit before the last of the check.
        reads("a stuffed bit in the check", flipped(LINE, 40), 1040);
    }

    private static void form() {
        reads("a first 1", "1", 3000);
        reads("a first 1", flipped(LINE, 0), 3000);
        reads("a delimiter of 0", flipped(LINE, DELIMITER), 3045);
        reads("an answer's end of 0", flipped(LINE, DELIMITER + 2), 3047);
        for (int i = DELIMITER + 3; i < LINE.length(); i++) {
            reads("one of the last seven of 0", flipped(LINE, i), 3000 + i);
        }
        reads("a delimiter like the five before it", flipped(FIVE_AT_END, 38), 3038);
    }

    /** Bits whose change leaves the stuffing alone. */
    private static void check() {
        int[] places = {8, 26, 44};
        for (int i : places) {
            String bad = flipped(LINE, i);
            reads("a wrong bit " + i, bad, 2047);
            reads("a wrong bit and an answer", flipped(bad, DELIMITER + 1), 2047);
            reads("a wrong bit and a delimiter of 0", flipped(bad, DELIMITER), 3045);
            reads("a wrong bit and an end of 0", flipped(bad, DELIMITER + 2), 2047);
            reads("a wrong bit, ended before it is found", bad.substring(0, 47), 4047);
        }
    }

    /** Lines with other bits where a frame has 1 (the 12th) or 0 0 0. */
    private static void looseBits() {
        reads("a short one with the 12th of 1", LooseLines.SHORT_12TH, 0);
        reads("a short one with the 14th of 1", LooseLines.SHORT_14TH, 0);
        reads("a long one with the 12th of 0", LooseLines.LONG_12TH, 0);
        reads("a long one with 1 1 1", LooseLines.LONG_THREE, 0);
    }

    private static void manyBytes() {
        for (int size = 9; size <= 15; size++) {
            String line = LooseLines.MANY_BYTES[size - 9];
            reads("a number of bytes of " + size, line, 0);
            reads("a number of bytes of " + size, line.substring(0, line.length() - 1), 3999 + line.length());
        }
    }

    private static void leavesTheTape() {
        SharedWire x = new SharedWire();
        x.want(0, false, 5, 0xA5, 1);
        x.tape(0);
        x.step(20, 0);
        String before = Due.stateOf(x);
        Due.is("read()", x.read(), 0);
        Due.is("read() again", x.read(), 0);
        Due.is("state behind read()", Due.stateOf(x), before);
        x.step(200, 0);
        Due.is("the wire goes on", x.node(1, 5), 1);
    }
}
