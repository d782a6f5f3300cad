/** Terms: to read bits one after the other: on the tape, and by a node, which must find the same. */
public final class TermsReadingTest {
    private static final String SHORT = "0" + "01010100101";
    private static final String LOW = "010101101001011010";
    private static final String BYTE = "0001" + "11000011";
    private static final String BYTES = "00000001" + "00000010" + "00000011" + "00000100" + "00000101" + "00000110"
        + "00000111" + "00001000";
    private static final String SHORT_TOLD = 0x2A5 + " 0 ";
    private static final String LONG_TOLD = (0x2A5 << 18 | 0x15A5A) + " 1 ";

    public static void main(String[] args) {
        the12thAnd14thOfAShortOne();
        the12thOfALongOne();
        theThreeOfALongOne();
        the13thMakesItLong();
        aNumberOfBytesUpTo15();
        linesMadeOutside();
        eachBitWrong();
        aReaderFindsTheSame();
        aNodeWaitsForA0();
        Due.end();
    }

    /** Both as a tape and as a node that is shown the line. */
    private static void isTaken(String bits, String told) {
        String line = Model.lineOf(bits);
        isTakenAsLine(line, told);
        SharedWire early = new SharedWire();
        Due.putText(early, line.substring(0, line.length() - 1));
        Due.is("read() but for the last bit of " + bits, early.read(), 3999 + line.length());
    }

    private static void isTakenAsLine(String line, String told) {
        SharedWire x = new SharedWire();
        Due.putText(x, line);
        Due.is("read() of " + line, x.read(), 0);
        Shown.to(x, 2, line);
        Due.is("received from " + line, Due.receivedOf(x, 2), told);
    }

    private static void the12thAnd14thOfAShortOne() {
        Due.sentence("Terms: the 12th, and what stands for 0 0 0, may be anything, but the 13th: a short one");
        for (String three : new String[] {"000", "001", "100", "101"}) {
            isTaken(SHORT + three + BYTE, SHORT_TOLD + "1 195");
        }
    }

    private static void the12thOfALongOne() {
        Due.sentence("Terms: the 12th may be anything: a long one");
        isTaken(SHORT + "11" + LOW + "000" + BYTE, LONG_TOLD + "1 195");
        isTaken(SHORT + "01" + LOW + "000" + BYTE, LONG_TOLD + "1 195");
    }

    private static void theThreeOfALongOne() {
        Due.sentence("Terms: what stands for 0 0 0 may be anything: a long one");
        for (int three = 0; three < 8; three++) {
            isTaken(SHORT + "11" + LOW + Model.number(three, 3) + BYTE, LONG_TOLD + "1 195");
            isTaken(SHORT + "01" + LOW + Model.number(three, 3) + "0000", LONG_TOLD + "0 0");
        }
    }

    private static void the13thMakesItLong() {
        Due.sentence("Terms: the frame is long if the 13th bit behind the first one is 1");
        isTaken(SHORT + "1" + "0" + "1" + "0000", SHORT_TOLD + "0 0");
        isTaken(SHORT + "1" + "1" + LOW + "000" + "0000", LONG_TOLD + "0 0");
        isTaken("0" + "11111111111" + "0" + "0" + "0" + "0000", "2047 0 0 0");
        isTaken("0" + "00000000000" + "0" + "1" + "0".repeat(18) + "000" + "0000", "0 1 0 0");
    }

    private static void aNumberOfBytesUpTo15() {
        Due.sentence("Terms: a number of bytes above 8 counts as 8");
        for (int n = 0; n <= 15; n++) {
            int counts = Math.min(n, 8);
            String data = BYTES.substring(0, 8 * counts);
            String told = counts + " " + Lines.lowest(0x0807060504030201L, counts);
            isTaken(SHORT + "000" + Model.number(n, 4) + data, SHORT_TOLD + told);
            isTaken(SHORT + "11" + LOW + "000" + Model.number(n, 4) + data, LONG_TOLD + told);
        }
    }

    private static void linesMadeOutside() {
        Due.sentence("Terms: to read bits one after the other");
        isTakenAsLine(LooseLines.SHORT_12TH, SHORT_TOLD + "1 195");
        isTakenAsLine(LooseLines.SHORT_14TH, SHORT_TOLD + "1 195");
        isTakenAsLine(LooseLines.LONG_12TH, LONG_TOLD + "1 195");
        isTakenAsLine(LooseLines.LONG_THREE, LONG_TOLD + "1 195");
        for (String line : LooseLines.MANY_BYTES) {
            isTakenAsLine(line, SHORT_TOLD + "8 " + 0x0807060504030201L);
        }
        for (Edge edge : Edge.ALL) {
            Model.Want want = edge.want();
            isTakenAsLine(edge.line(), Lines.frame(want.isLong(), want.identifier(), want.data(), want.n()));
        }
    }

    private static void eachBitWrong() {
        Due.sentence("Terms: a reader's faults 1, 2 and 3, one bit or two being wrong");
        Model model = new Model();
        for (Edge edge : Edge.ALL) {
            for (int i = 0; i < edge.line().length(); i++) {
                for (int k = i; k < Math.min(i + 12, edge.line().length()); k++) {
                    String once = Lines.flipped(edge.line(), i);
                    model.tape = k == i ? once : Lines.flipped(once, k);
                    SharedWire x = new SharedWire();
                    Due.putText(x, model.tape);
                    Due.is("read() of " + edge.what() + ", wrong at " + i + " and " + k, x.read(), model.read());
                }
            }
        }
    }

    /** From bit 1 on: a first bit of 1 is not read by a node, but waited through. */
    private static void aReaderFindsTheSame() {
        Due.sentence("Promise 13: as it is for a reader");
        String[] lines = {Lines.FIVE, Edge.ONES_AT_END.line(), Edge.ZERO_BEFORE_LAST.line(), LooseLines.LONG_THREE};
        for (String line : lines) {
            for (int i = 1; i < line.length(); i++) {
                String bad = Lines.flipped(line, i);
                SharedWire x = new SharedWire();
                Due.putText(x, bad);
                int read = x.read();
                int broken = Shown.untilBroken(x, 1, bad);
                boolean isFault = read > 0 && read < 4000;
                Due.is("the fault of " + bad, x.node(1, 6), isFault ? read / 1000 : 0);
                Due.is("the bit with which it is found in " + bad, broken, isFault ? read % 1000 : -1);
            }
        }
    }

    private static void aNodeWaitsForA0() {
        Due.sentence("Terms: a node that is on, and is neither, if it sees 0, is a reader who has read that");
        SharedWire x = new SharedWire();
        x.step(1, 1);
        Shown.toAll(x, Shown.oneSees(1, "1111"), -1, -1);
        Due.is("four 1, while it is busy", Lines.roles(x), "2111");
        Shown.toAll(x, Shown.oneSees(1, "0"), -1, -1);
        Due.is("then a 0", Lines.roles(x), "2211");
    }
}
