/** Promise 13: read. The lines were made from the document outside the program. */
public final class Promise13ReadTest {
    private static final String LINE = Lines.FIVE;
    private static final int DELIMITER = Lines.FIVE_DELIMITER;
    private static final int ANSWER = Lines.FIVE_ANSWER;
    private static final int END = Lines.FIVE_END;
    /** Places whose change leaves the stuffing alone: of the identifier, the data and the check. */
    private static final int[] CHECKED = {8, 26, 44};

    public static void main(String[] args) {
        zeroForAFrame();
        anEmptyTape();
        endsTooEarly();
        somethingBehind();
        theFirstBit();
        whereOneIsStuffedIn();
        noneBehindTheCheck();
        theDelimiter();
        theAnswer();
        theEndOfIt();
        sevenTimes1();
        theCheck();
        theFirstFaultIsFound();
        aFaultComesBeforeTheEnd();
        theTapeAsItIsNow();
        Twins.onlyLooks("read()", SharedWire::read);
        Due.end();
    }

    private static void reads(String what, String bits, int due) {
        SharedWire x = new SharedWire();
        Due.putText(x, bits);
        Due.is("read() of " + what, x.read(), due);
    }

    private static String flipped(String bits, int i) {
        return Lines.flipped(bits, i);
    }

    private static void zeroForAFrame() {
        Due.sentence("Promise 13: 0, if it is a frame on the wire, and nothing behind it");
        reads("a line", LINE, 0);
        for (Edge edge : Edge.ALL) {
            reads(edge.what(), edge.line(), 0);
        }
    }

    private static void anEmptyTape() {
        Due.sentence("Promise 13: so 4000 for an empty one");
        Due.is("read() of a new object", new SharedWire().read(), 4000);
        SharedWire x = Lines.sendingFive(0);
        x.tape(0);
        x.wipe();
        Due.is("read() of a wiped tape", x.read(), 4000);
        reads("one bit", "0", 4001);
    }

    /** Bit for bit: too early up to the last, a frame with it, and one more behind each time from there on. */
    private static void growing(String line, String more) {
        SharedWire x = new SharedWire();
        String bits = line + more;
        for (int length = 1; length <= bits.length(); length++) {
            x.put(bits.charAt(length - 1) - '0', 1);
            int due = length < line.length() ? 4000 + length : length == line.length() ? 0 : 5000 + line.length();
            Due.is("read() of the first " + length + " of " + bits, x.read(), due);
        }
    }

    private static void endsTooEarly() {
        Due.sentence("Promise 13: 4000 and its length, if it ends too early");
        growing(LINE, "");
        for (Edge edge : Edge.ALL) {
            growing(edge.line(), "");
        }
    }

    private static void somethingBehind() {
        Due.sentence("Promise 13: 5000 and the first bit behind");
        growing(LINE, "1".repeat(200 - LINE.length()));
        growing(LINE, "0".repeat(200 - LINE.length()));
        growing(Edge.LONGEST.line(), "01".repeat(22) + "0");
        growing(Edge.SHORTEST.line(), Edge.SHORTEST.line());
        reads("a frame and a spoilt one", LINE + "1" + LINE, 5055);
    }

    private static void theFirstBit() {
        Due.sentence("Terms: the first bit must be 0 (else fault 3)");
        reads("a 1", "1", 3000);
        reads("a 0", "0", 4001);
        reads("a line with a first 1", flipped(LINE, 0), 3000);
        reads("200 of 1", "1".repeat(200), 3000);
    }

    private static void whereOneIsStuffedIn() {
        Due.sentence("Terms: a bit where one is stuffed in must be the other one (else fault 1)");
        reads("five 0", "00000", 4005);
        reads("five 0 and a 1", "000001", 4006);
        reads("six 0", "000000", 1005);
        reads("five 1 behind 0", "011111", 4006);
        reads("five 1 behind 0, and a 0", "0111110", 4007);
        reads("six 1 behind 0", "0111111", 1006);
        reads("four alike behind a stuffed one of the other kind", "00000" + "1" + "0000" + "1", 4011);
        reads("five alike behind a stuffed one of the other kind", "00000" + "1" + "00000" + "1", 4012);
        reads("six alike behind a stuffed one of the other kind", "00000" + "1" + "00000" + "0", 1011);
        reads("a stuffed one and four alike, and the other one", "00000" + "1" + "1111" + "0", 4011);
        reads("a stuffed one and five alike", "00000" + "1" + "1111" + "1", 1010);
        reads("200 of 0", "0".repeat(200), 1005);
        for (Edge edge : Edge.STUFFED) {
            reads(edge.what() + ", the wrong one", flipped(edge.line(), edge.place()), 1000 + edge.place());
        }
    }

    private static void noneBehindTheCheck() {
        Due.sentence("Terms: none behind the last bit of the check");
        for (Edge edge : Edge.NONE_AT_END) {
            reads(edge.what(), edge.line(), 0);
            reads(edge.what() + ", a delimiter of 0", flipped(edge.line(), edge.place()), 3000 + edge.place());
        }
        reads("an answer, its end and all behind it like the five before them", Edge.ONES_AT_END.line(), 0);
    }

    private static void theDelimiter() {
        Due.sentence("Terms: the delimiter must be 1 (else fault 3)");
        reads("a delimiter of 0", flipped(LINE, DELIMITER), 3000 + DELIMITER);
        reads("a last bit of the check before it", LINE.substring(0, DELIMITER), 4000 + DELIMITER);
    }

    private static void theAnswer() {
        Due.sentence("Terms: the answer may be anything");
        reads("an answer of 1", LINE, 0);
        reads("an answer of 0", flipped(LINE, ANSWER), 0);
    }

    private static void theEndOfIt() {
        Due.sentence("Terms: its end must be 1 (else fault 3)");
        reads("an end of 0", flipped(LINE, END), 3000 + END);
        reads("an answer of 0 and an end of 0", flipped(flipped(LINE, ANSWER), END), 3000 + END);
    }

    private static void sevenTimes1() {
        Due.sentence("Terms: then seven times 1 (else fault 3)");
        for (int i = END + 1; i <= END + 7; i++) {
            reads("a 0 as number " + (i - END) + " of the seven", flipped(LINE, i), 3000 + i);
        }
        reads("six of the seven", LINE.substring(0, END + 7), 4000 + END + 7);
        reads("the seven", LINE.substring(0, END + 8), 0);
        reads("an eighth that is 0", LINE + "0", 5000 + END + 8);
    }

    private static void theCheck() {
        Due.sentence("Terms: if the check is not that of the bits, it is fault 2 there, whatever it is");
        for (int i : CHECKED) {
            String bad = flipped(LINE, i);
            reads("a wrong bit " + i, bad, 2000 + END);
            reads("a wrong bit and an answer of 0", flipped(bad, ANSWER), 2000 + END);
            reads("a wrong bit and an end of 0", flipped(bad, END), 2000 + END);
            reads("a wrong bit, with the end to come", bad.substring(0, END), 4000 + END);
            reads("a wrong bit, with the end", bad.substring(0, END + 1), 2000 + END);
        }
        reads("a wrong check of five alike at its end", flipped(Edge.ONES_AT_END.line(), 26), 2046);
    }

    private static void theFirstFaultIsFound() {
        Due.sentence("Promise 13: the bit with which it is found: the first of several faults");
        for (int i : CHECKED) {
            String bad = flipped(LINE, i);
            reads("a wrong bit and a delimiter of 0", flipped(bad, DELIMITER), 3000 + DELIMITER);
            reads("a wrong bit and one of the seven", flipped(bad, END + 1), 2000 + END);
            reads("a wrong bit and a wrong stuffed one", flipped(bad, Lines.FIVE_STUFFED), 1000 + Lines.FIVE_STUFFED);
        }
        reads("a first 1 and five more", "111111", 3000);
        reads("a delimiter and an end of 0", flipped(flipped(LINE, DELIMITER), END), 3000 + DELIMITER);
        reads("the first and the last of the seven", flipped(flipped(LINE, END + 1), END + 7), 3000 + END + 1);
    }

    private static void aFaultComesBeforeTheEnd() {
        Due.sentence("Promise 13: otherwise the fault, whatever comes or is missing behind it");
        reads("a fault with the last bit there is", "000000", 1005);
        reads("a fault and 194 more", "000000" + "10".repeat(97), 1005);
        reads("a fault with the frame's last bit, and more", flipped(LINE, 54) + LINE, 3054);
        reads("the same with nothing behind", flipped(LINE, 54), 3054);
    }

    private static void theTapeAsItIsNow() {
        Due.sentence("Promise 13: reads the tape from its beginning, each time");
        SharedWire x = Lines.sendingFive(0);
        x.tape(0);
        Due.is("a frame", x.read(), 0);
        x.flip(8);
        Due.is("spoilt", x.read(), 2047);
        x.flip(8);
        Due.is("mended", x.read(), 0);
        x.put(1, 1);
        Due.is("with one behind", x.read(), 5055);
        x.flip(DELIMITER);
        Due.is("with a fault too", x.read(), 3045);
        x.wipe();
        Due.is("wiped", x.read(), 4000);
    }
}
