/** Terms: a frame's bits, the check, what is stuffed in, and what comes on the wire, as tape tells them. */
public final class TermsFrameTest {
    private static final int LONGEST = Lines.LONGEST_IDENTIFIER;

    public static void main(String[] args) {
        linesMadeOutside();
        bitsOfAShortOne();
        bitsOfALongOne();
        theNumberOfBytes();
        theBytes();
        theCheck();
        fourAlikeAndFive();
        stuffedOnesAreCounted();
        noneBehindTheLastBitOfTheCheck();
        whatComesBehind();
        allShortIdentifiers();
        Due.end();
    }

    private static String tapeOf(boolean isLong, int identifier, long data, int n) {
        SharedWire x = new SharedWire();
        x.want(0, isLong, identifier, data, n);
        x.tape(0);
        return Due.tapeOf(x);
    }

    private static void isAsModelled(boolean isLong, int identifier, long data, int n) {
        Due.is("the line of " + Lines.frame(isLong, identifier, data, n), tapeOf(isLong, identifier, data, n),
            Model.line(new Model.Want(isLong, identifier, data, n))[0]);
    }

    private static void isLine(boolean isLong, int identifier, long data, int n, String line) {
        Due.is("the line of " + Lines.frame(isLong, identifier, data, n), tapeOf(isLong, identifier, data, n), line);
    }

    private static void linesMadeOutside() {
        Due.sentence("Terms: its bits, stuffed, and on the wire");
        isLine(false, 5, 0xA5, 1, Lines.FIVE);
        isLine(false, 0, 0, 0, "00000100000100000100000100000100000100001111111111");
        isLine(false, 2047, 0, 0, "01111101111101000001000100111001011111111111111");
        isLine(true, 0, 0, 0, "00000100000100110000010000010000010000010000011000110000100001111111111");
        isLine(true, LONGEST, -1, 8, "011111011111011111011111011111011111010001000111110111110111110111110111110"
            + "11111011111011111011111011111011111011111011110011011011010011111111111");
        isLine(false, 0x123, 0x0807060504030201L, 8, "00010010001100010000010000011000001010000010011000001100000"
            + "100101000001110000010111000010001100100111011111111111111");
        isLine(true, 0x12345678, 0x3412, 2, "010010001101110001010110011110000010001000010010001101001100110100"
            + "010011111111111");
        isLine(false, 9, 0, 0, "000001000100100000100111110000011000001111111111");
    }

    private static void bitsOfAShortOne() {
        Due.sentence("Terms: for a short one: 0; the 11 bits of the identifier, the highest first, 0 0 0");
        Due.is("0x555", tapeOf(false, 0x555, -1, 8).substring(0, 15), "0" + "10101010101" + "000");
        Due.is("0x2AA", tapeOf(false, 0x2AA, -1, 8).substring(0, 15), "0" + "01010101010" + "000");
        Due.is("0x400", tapeOf(false, 0x400, 0, 0).substring(0, 7), "0" + "100000");
        Due.is("1, with a 1 stuffed in twice", tapeOf(false, 1, -1, 8).substring(0, 17),
            "00000" + "1" + "00000" + "1" + "01000");
        for (int bit = 0; bit < 11; bit++) {
            isAsModelled(false, 1 << bit, 0, 0);
            isAsModelled(false, 2047 ^ 1 << bit, 0, 0);
        }
    }

    private static void bitsOfALongOne() {
        Due.sentence("Terms: for a long one: 0; the 11 highest bits, 1 1, the other 18, 0 0 0");
        Due.is("0x15555555", tapeOf(true, 0x15555555, -1, 8).substring(0, 35),
            "0" + "10101010101" + "11" + "010101010101010101" + "000");
        Due.is("0x0AAAAAAA", tapeOf(true, 0x0AAAAAAA, -1, 8).substring(0, 35),
            "0" + "01010101010" + "11" + "101010101010101010" + "000");
        for (int bit = 0; bit < 29; bit++) {
            isAsModelled(true, 1 << bit, 0, 0);
            isAsModelled(true, LONGEST ^ 1 << bit, 0, 0);
        }
    }

    private static void theNumberOfBytes() {
        Due.sentence("Terms: the number of bytes (4 bits)");
        // Of 0 .. 3 a 1 is stuffed in behind the first two bits: 0 0 0 stands before them.
        String[] due = {"00100", "00101", "00110", "00111", "0100", "0101", "0110", "0111", "1000"};
        for (int n = 0; n <= 8; n++) {
            Due.is("of " + n, tapeOf(false, 0x555, -1, n).substring(15, 15 + due[n].length()), due[n]);
            isAsModelled(false, 0x555, -1, n);
            isAsModelled(true, 0x15555555, 0, n);
        }
    }

    private static void theBytes() {
        Due.sentence("Terms: 0 .. 8 bytes of data");
        for (int n = 0; n <= 8; n++) {
            long[] all = {0, -1, 0xA5A5A5A5A5A5A5A5L, 0x8000000000000001L, 0x0102030405060708L};
            for (long data : all) {
                isAsModelled(false, 0x3C3, data, n);
                isAsModelled(true, 0x0F0F0F0F, data, n);
            }
        }
        for (int bit = 0; bit < 64; bit++) {
            isAsModelled(false, 0x155, 1L << bit, 8);
        }
    }

    /** The check and the ten bits behind it, of lines in which nothing is stuffed in there. */
    private static void isCheck(boolean isLong, int identifier, long data, int n, int check) {
        String line = tapeOf(isLong, identifier, data, n);
        Due.is("the check of " + Lines.frame(isLong, identifier, data, n), line.substring(line.length() - 25),
            Model.number(check, 15) + "1111111111");
    }

    private static void theCheck() {
        Due.sentence("Terms: the check: c is 0 at first; for each bit b before it: ..");
        String nineDigits = "";
        for (char digit = '1'; digit <= '9'; digit++) {
            nineDigits += Model.number(digit, 8);
        }
        Due.is("the model's check, as it is known of the text 123456789", Model.check(nineDigits),
            Model.number(0x059E, 15));
        // One 1 and seven 0: 0x4599, 0x4EAB, 0x58CF, 0x7407, 0x2D97, 0x5B2E, 0x73C5, 0x2213.
        isCheck(false, 1, 0, 0, 0x2213);
        isCheck(false, 2, 0, 0, 0x4426);
        isCheck(false, 0x555, 0, 0, 0x674C);
        isCheck(false, 2047, 0xA5, 1, 0x1EEB);
        isCheck(false, 0x123, 0x3412, 2, 0x36B7);
        isCheck(false, 0x2AA, 0x0123456789ABCDEFL, 8, 0x56D7);
        isCheck(true, LONGEST, 0, 0, 0x1C88);
        isCheck(true, 1, 0xA5, 1, 0x069C);
        isCheck(true, 0x12345678, 0x3412, 2, 0x6689);
        isCheck(true, 0x10000000, 0x0123456789ABCDEFL, 8, 0x1510);
    }

    private static void fourAlikeAndFive() {
        Due.sentence("Terms: stuffed: behind each five alike comes one more, the other one");
        Due.is("four 0", tapeOf(false, 0x0AA, -1, 8).substring(0, 12), "0000" + "10101010");
        Due.is("five 0, and a 0", tapeOf(false, 0x02A, -1, 8).substring(0, 13), "00000" + "1" + "0101010");
        Due.is("five 0, and a 1", tapeOf(false, 0x055, -1, 8).substring(0, 13), "00000" + "1" + "1010101");
        Due.is("four 1", tapeOf(false, 0x795, -1, 8).substring(0, 12), "0" + "1111" + "0010101");
        Due.is("five 1, and a 0", tapeOf(false, 0x7D5, -1, 8).substring(0, 13), "0" + "11111" + "0" + "010101");
        Due.is("five 1, and a 1", tapeOf(false, 0x7EA, -1, 8).substring(0, 13), "0" + "11111" + "0" + "101010");
        for (Edge edge : Edge.STUFFED) {
            isLine(edge);
        }
    }

    private static void isLine(Edge edge) {
        Model.Want want = edge.want();
        isLine(want.isLong(), want.identifier(), want.data(), want.n(), edge.line());
    }

    private static void stuffedOnesAreCounted() {
        Due.sentence("Terms: those that were stuffed in counted");
        Due.is("a stuffed 1 and three 1", tapeOf(false, 0x075, -1, 8).substring(0, 13), "00000" + "1" + "111" + "0101");
        Due.is("a stuffed 1 and four 1", tapeOf(false, 0x07A, -1, 8).substring(0, 14),
            "00000" + "1" + "1111" + "0" + "010");
        Due.is("a stuffed 0 and four 0", tapeOf(false, 0x7C2, -1, 8).substring(0, 14),
            "0" + "11111" + "0" + "0000" + "1" + "10");
        isLine(Edge.ONE_AND_FOUR);
    }

    private static void noneBehindTheLastBitOfTheCheck() {
        Due.sentence("Terms: but none behind the last bit of the check");
        for (Edge edge : Edge.NONE_AT_END) {
            isLine(edge);
        }
        isLine(Edge.ONE_BEFORE_LAST);
        isLine(Edge.ZERO_BEFORE_LAST);
    }

    private static void whatComesBehind() {
        Due.sentence("Terms: on the wire come 1, the answer (1 by who sends), 1, and 1 seven times");
        for (Edge edge : Edge.ALL) {
            SharedWire x = edge.wanted(1);
            int length = edge.line().length();
            Due.is("length of " + edge.what(), x.tape(1), length);
            String stuffed = edge.line().substring(0, length - 10);
            Due.is("the levels of " + edge.what(), Due.levels(x, length), stuffed + "1" + "0" + "1" + "1111111");
            Due.is("it is sent", Lines.ofAll(x, 4), "0 1 0 0");
        }
    }

    private static void allShortIdentifiers() {
        Due.sentence("Terms: a short identifier, 0 .. 2047");
        for (int identifier = 0; identifier < 2048; identifier++) {
            isAsModelled(false, identifier, 0x0123456789ABCDEFL * identifier, identifier % 9);
        }
    }
}
