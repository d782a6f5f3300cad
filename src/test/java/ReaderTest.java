/** Promise 3: what readers read, answer and receive, and the faults 1, 2 and 3. */
public final class ReaderTest {
    public static void main(String[] args) {
        stuffingFault();
        checkFault();
        formFaults();
        disturbedAnswer();
        faultAtTheLastBit();
        severalFindFaults();
        countGoesDown();
        missesTheFirstBit();
        loserAtThe12thReadsOn();
        looseFramesAreReceived();
        oneEndsBeforeTheOther();
        Due.end();
    }

    private static void disturbed(int place, String due) {
        SharedWire x = Lines.sendingFive(place);
        x.step(1, 2);
        Due.is("nodes disturbed at " + place, Lines.allTold(x), due);
        Due.is("broken at " + place, x.wire(), 2);
        Due.is("not sent at " + place, x.node(0, 4) + x.node(1, 5) + x.node(2, 5), 0);
    }

    private static void stuffingFault() {
        disturbed(Lines.FIVE_STUFFED, "1 0 0 0, 1 0 1 1, 1 0 0 0, 1 0 0 0");
        disturbed(18, "1 0 0 0, 1 0 1 1, 1 0 0 0, 1 0 0 0");
    }

    private static void checkFault() {
        int[] places = {8, 26, 44};
        for (int place : places) {
            SharedWire x = Lines.sendingFive(place);
            x.step(1, 2);
            x.step(Lines.FIVE_ANSWER - place - 1, 0);
            Due.is("the others answer", x.step(1, 0), 0);
            Due.is("nothing is found yet", Lines.allTold(x), "3 0 0 0, 2 0 0 0, 2 0 0 0, 2 0 0 0");
            x.step(1, 0);
            Due.is("found at the answer's end", Lines.allTold(x), "1 0 0 0, 1 0 1 2, 1 0 0 0, 1 0 0 0");
            Due.is("broken", x.wire(), 2);
        }
        // Whatever is seen at the answer's end.
        SharedWire y = Lines.sendingFive(26);
        y.step(1, 2);
        y.step(Lines.FIVE_END - 27, 0);
        y.step(1, 2);
        Due.is("a wrong end is fault 2 too", Lines.told(y, 1), "1 0 1 2");
    }

    private static void formFaults() {
        disturbed(Lines.FIVE_DELIMITER, "1 0 0 0, 1 0 1 3, 1 0 0 0, 1 0 0 0");
        for (int place = Lines.FIVE_END; place < 55; place++) {
            disturbed(place, "1 0 0 0, 1 0 1 3, 1 0 0 0, 1 0 0 0");
        }
    }

    private static void disturbedAnswer() {
        SharedWire x = Lines.sendingFive(Lines.FIVE_ANSWER);
        Due.is("there is an answer", x.step(1, 14), 0);
        x.step(8, 0);
        Due.is("readers take anything there", x.node(1, 5) + x.node(2, 5) + x.node(3, 5), 3);
        Due.is("and it is sent", x.node(0, 4), 1);
        // One reader alone answers for all.
        SharedWire y = Lines.sendingFive(26);
        y.step(1, 12);
        y.step(Lines.FIVE_ANSWER - 27, 0);
        Due.is("node 1 answers", y.step(1, 0), 0);
        Due.is("the sender goes on", y.node(0, 0), 3);
    }

    private static void faultAtTheLastBit() {
        SharedWire x = Lines.sendingFive(54);
        x.step(1, 2);
        Due.is("nobody has received it", x.node(1, 5) + x.node(2, 5) + x.node(3, 5), 0);
        Due.is("nor is it sent", x.node(0, 4), 0);
        Due.is("the sender counts nothing", Lines.told(x, 0), "1 0 0 0");
        x.step(17 + 55, 0);
        Due.is("it comes again", x.node(1, 5) + x.node(2, 5) + x.node(3, 5), 3);
    }

    private static void severalFindFaults() {
        SharedWire x = Lines.sendingFive(Lines.FIVE_STUFFED);
        x.step(1, 11);
        Due.is("each by what it is", Lines.allTold(x), "1 8 0 4, 1 0 1 1, 1 0 0 0, 1 0 1 1");
    }

    private static void countGoesDown() {
        SharedWire x = Lines.sendingFive(Lines.FIVE_STUFFED);
        x.step(1, 2);
        x.step(17, 0);
        x.step(Lines.FIVE_DELIMITER, 0);
        x.step(1, 6);
        Due.is("two faults, and one", Lines.allTold(x), "1 0 0 0, 1 0 2 3, 1 0 1 3, 1 0 0 0");
        x.step(17 + 55, 0);
        Due.is("one less each", Lines.allTold(x), "1 0 0 0, 1 0 1 3, 1 0 0 3, 1 0 0 0");
        for (int i = 0; i < 2; i++) {
            x.want(0, false, 5, 0xA5, 1);
            x.step(3 + 55, 0);
            Due.is("not below 0", Lines.allTold(x), "1 0 0 0, 1 0 0 3, 1 0 0 3, 1 0 0 0");
        }
    }

    private static void missesTheFirstBit() {
        SharedWire x = Lines.sendingFive(0);
        x.step(1, 4);
        Due.is("node 2 is neither", Lines.allTold(x), "3 0 0 0, 2 0 0 0, 1 0 0 0, 2 0 0 0");
        x.step(1, 0);
        Due.is("it begins one bit late", Lines.allTold(x), "3 0 0 0, 2 0 0 0, 2 0 0 0, 2 0 0 0");
        // The others leave bit 5 out as stuffed in; node 2 has had only four 0 before it.
        SharedWire y = new SharedWire();
        y.want(0, false, 2047, 0, 0);
        y.step(1, 4);
        y.step(5, 0);
        Due.is("it waits through 1", y.node(2, 0), 1);
        y.step(1, 0);
        Due.is("and begins with the stuffed 0", y.node(2, 0), 2);
    }

    private static void loserAtThe12thReadsOn() {
        SharedWire x = new SharedWire();
        x.want(0, true, 0x15555555, 0x77, 1);
        x.want(1, false, 0x555, 0x66, 1);
        x.step(200, 0);
        Due.is("both came", x.node(2, 5), 2);
        Due.is("the loser received the short one", Due.receivedOf(x, 0), 0x555 + " 0 1 " + 0x66);
        Due.is("the winner received the long one", Due.receivedOf(x, 1), 0x15555555 + " 1 1 " + 0x77);
    }

    /**
     * Lets each node see what is asked for, though nobody sends: whoever would see the level
     * instead is disturbed. The level is 0 where a reader answers, at the places given.
     */
    private static void show(SharedWire x, String[] views, int answer, int answer2) {
        for (int i = 0; i < views[0].length(); i++) {
            int level = i == answer || i == answer2 ? 0 : 1;
            int disturbed = 0;
            for (int node = 0; node < 4; node++) {
                disturbed |= views[node].charAt(i) - '0' != level ? 1 << node : 0;
            }
            Due.is("level " + i + " of a shown line", x.step(1, disturbed), level);
        }
    }

    private static void showTo(SharedWire x, int node, String line) {
        String[] views = new String[4];
        java.util.Arrays.fill(views, "1".repeat(line.length()));
        views[node] = line;
        show(x, views, line.length() - 9, -1);
        Due.is("the pause comes behind a shown line", x.wire(), 3);
        x.step(3, 0);
    }

    private static void looseFramesAreReceived() {
        SharedWire x = new SharedWire();
        int low = 0x2A5 << 18 | 0x15A5A;
        showTo(x, 1, LooseLines.SHORT_12TH);
        Due.is("the 12th of 1", Due.receivedOf(x, 1), 0x2A5 + " 0 1 " + 0xC3);
        showTo(x, 2, LooseLines.SHORT_14TH);
        Due.is("the 14th of 1", Due.receivedOf(x, 2), 0x2A5 + " 0 1 " + 0xC3);
        showTo(x, 1, LooseLines.LONG_12TH);
        Due.is("a long one, the 12th of 0", Due.receivedOf(x, 1), low + " 1 1 " + 0xC3);
        showTo(x, 3, LooseLines.LONG_THREE);
        Due.is("a long one with 1 1 1", Due.receivedOf(x, 3), low + " 1 1 " + 0xC3);
        for (String line : LooseLines.MANY_BYTES) {
            showTo(x, 0, line);
            Due.is("more than 8 bytes are 8", Due.receivedOf(x, 0), 0x2A5 + " 0 8 " + 0x0807060504030201L);
        }
        Due.is("how many node 0 received", x.node(0, 5), 7);
        Due.is("no faults", Lines.allTold(x), "1 0 0 0, 1 0 0 0, 1 0 0 0, 1 0 0 0");
    }

    private static void oneEndsBeforeTheOther() {
        int length = Lines.FIVE.length();
        String none = "1".repeat(length);
        SharedWire x = new SharedWire();
        show(x, new String[] {none, Lines.FIVE, "1111" + Lines.FIVE.substring(0, length - 4), none},
            Lines.FIVE_ANSWER, Lines.FIVE_ANSWER + 4);
        Due.is("node 1 has ended, node 2 not", Lines.allTold(x), "1 0 0 0, 1 0 0 0, 2 0 0 0, 1 0 0 0");
        Due.is("node 1 alone has received", x.node(1, 5) * 10 + x.node(2, 5), 10);
        Due.is("busy still", x.wire(), 1);
        x.want(1, false, 0, 0, 0);
        x.step(3, 0);
        Due.is("nobody begins", Lines.allTold(x), "1 0 0 0, 1 0 0 0, 2 0 0 0, 1 0 0 0");
        x.step(1, 2);
        Due.is("node 2 ends, but node 1 has seen 0", Lines.allTold(x), "1 0 0 0, 2 0 0 0, 1 0 0 0, 1 0 0 0");
        Due.is("both have received", x.node(1, 5) * 10 + x.node(2, 5), 11);
        Due.is("so it is busy", x.wire(), 1);
        x.step(6, 0);
        Due.is("until node 1 finds a fault", Lines.allTold(x), "1 0 0 0, 1 0 1 1, 1 0 0 0, 1 0 0 0");
    }
}
