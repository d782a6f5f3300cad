import java.util.List;

/**
 * Frames at the edges of what Terms says of stuffing, with their lines as made outside the program.
 * The place is that of the bit that the edge is about.
 */
record Edge(String what, Model.Want want, String line, int place) {
    static final Edge ZEROS_AT_END = of("a check that ends with five 0", 7, 74, 1,
        "0000010000111000001010100101011000001111000001111111111", 45);
    static final Edge ONES_AT_END = of("a check that ends with five 1", 9, 111, 1,
        "000001000100100000101011011110111000010111111111111111", 44);
    static final Edge ONE_BEFORE_LAST = of("a 1 stuffed in before the last bit of the check", 3, 37, 1,
        "00000100000111000001010010010110010100100000101111111111", 44);
    static final Edge ZERO_BEFORE_LAST = of("a 0 stuffed in before the last bit of the check", 5, 222, 1,
        "0000010000101000001011101111010001111011111011111111111", 43);
    static final Edge ONE_BEFORE_CHECK = of("a 1 stuffed in before the first bit of the check", 8, 0, 0,
        "00000100010000010000011011110001100111111111111", 21);
    static final Edge ZERO_BEFORE_CHECK = of("a 0 stuffed in before the first bit of the check", 0, 31, 1,
        "00000100000100000100010001111101001110010010111111111111", 30);
    static final Edge ONE_AND_FOUR = of("five alike, a 1 that was stuffed in counted", 0x7f, 0xA5, 1,
        "0000011111011100000101101001010110101001000011111111111", 10);
    static final Edge SHORTEST = of("the shortest line", 132, 0, 0,
        "000010000100000100001010001110100001111111111", 9);
    static final Edge LONGEST = new Edge("the longest line", new Model.Want(true, 0x1ee1e1e, 0x0f0f0f0f1f3c3c3cL, 8),
        "00000111110011111000001111100000111110000011000001111100000111"
            + "110000011111000001011111000001111100000111110000011111000001111100000100000111110101111111111", 5);

    /** Of these the bit at the place is stuffed in, so that another one there is fault 1. */
    static final List<Edge> STUFFED = List.of(ONE_BEFORE_LAST, ZERO_BEFORE_LAST, ONE_BEFORE_CHECK, ZERO_BEFORE_CHECK,
        ONE_AND_FOUR, LONGEST);
    /** Of these the bit at the place is the delimiter: nothing is stuffed in before it. */
    static final List<Edge> NONE_AT_END = List.of(ZEROS_AT_END, ONES_AT_END);
    static final List<Edge> ALL = List.of(ZEROS_AT_END, ONES_AT_END, ONE_BEFORE_LAST, ZERO_BEFORE_LAST,
        ONE_BEFORE_CHECK, ZERO_BEFORE_CHECK, ONE_AND_FOUR, SHORTEST, LONGEST);

    private static Edge of(String what, int identifier, long data, int n, String line, int place) {
        return new Edge(what, new Model.Want(false, identifier, data, n), line, place);
    }

    SharedWire wanted(int node) {
        SharedWire x = new SharedWire();
        x.want(node, want.isLong(), want.identifier(), want.data(), want.n());
        return x;
    }
}
