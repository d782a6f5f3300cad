/** Terms: a sender: who goes on, who loses, the faults 4 and 5, and when its frame is sent. */
public final class TermsSenderTest {
    public static void main(String[] args) {
        lowerGoesOn();
        shortGoesOnBeforeLong();
        longOnesByTheirOtherBits();
        sameFramesAreBothSent();
        sameIdentifierOtherSize();
        theLastBitThatLoses();
        eachBitSeenOtherwise();
        oneStuffedInDoesNotLose();
        whoLosesReadsOn();
        whoLosesAtThe12thReadsOn();
        theAnswer();
        aWrongAnswerIsRight();
        sentWithTheLast1();
        Due.end();
    }

    private static void lowerGoesOn() {
        Due.sentence("Terms: if it sent 1, not as one stuffed in, and sees 0: it loses, and is a reader from there on");
        SharedWire x = Lines.sendingFive(0);
        x.want(1, false, 4, 2, 2);
        x.want(2, false, 2047, 0, 0);
        x.step(1, 0);
        Due.is("all three begin", Lines.allTold(x), "3 0 0 0, 3 0 0 0, 3 0 0 0, 2 0 0 0");
        // 2047 sends 1 at bit 1; 5 sends 1 as its last but 4 sends 0.
        x.step(1, 0);
        Due.is("2047 loses", Lines.allTold(x), "3 0 0 0, 3 0 0 0, 2 0 0 0, 2 0 0 0");
        x.step(10, 0);
        Due.is("5 goes on", Lines.allTold(x), "3 0 0 0, 3 0 0 0, 2 0 0 0, 2 0 0 0");
        Due.is("the level is 4's", x.step(1, 0), 0);
        Due.is("5 loses", Lines.allTold(x), "2 0 0 0, 3 0 0 0, 2 0 0 0, 2 0 0 0");
        x.step(51, 0);
        Due.is("4 is sent", Lines.ofAll(x, 4), "0 1 0 0");
        Due.is("all others received it", Lines.ofAll(x, 5), "1 0 1 1");
        Due.is("who lost received 4", Due.receivedOf(x, 0), "4 0 2 2");
        Due.is("who lost received 4", Due.receivedOf(x, 2), "4 0 2 2");
        Due.is("and wants still", Lines.ofAll(x, 3), "1 0 1 0");
        x.step(3, 0);
        Due.is("5 comes next", Due.levels(x, 55), Lines.answered(Lines.FIVE));
        x.step(200, 0);
        Due.is("2047 comes last", Due.receivedOf(x, 0), "2047 0 0 0");
    }

    private static void shortGoesOnBeforeLong() {
        Due.sentence("Terms: a long one's 1 1 loses to a short one's 0 0 0");
        SharedWire x = Lines.sendingFive(0);
        x.want(1, true, 5 << 18, 0, 0);
        x.step(13, 0);
        Due.is("the same as yet", Lines.roles(x), "3322");
        x.step(1, 0);
        Due.is("the long one loses at the 12th", Lines.allTold(x), "3 0 0 0, 2 0 0 0, 2 0 0 0, 2 0 0 0");
        x.step(200, 0);
        Due.is("both are sent", Lines.ofAll(x, 4), "1 1 0 0");
        Due.is("the short one was first", Due.receivedOf(x, 2), (5 << 18) + " 1 0 0");
    }

    private static void longOnesByTheirOtherBits() {
        Due.sentence("Terms: more than two bits were to come before the number of bytes: a long identifier's last");
        int longest = Lines.LONGEST_IDENTIFIER;
        SharedWire x = new SharedWire();
        x.want(0, true, longest, 0, 0);
        x.want(1, true, longest - 1, 0, 0);
        x.step(37, 0);
        Due.is("the same as yet", Lines.roles(x), "3322");
        x.step(1, 0);
        Due.is("the last bit tells", Lines.allTold(x), "2 0 0 0, 3 0 0 0, 2 0 0 0, 2 0 0 0");
        x.step(100, 0);
        Due.is("received", Due.receivedOf(x, 0), (longest - 1) + " 1 0 0");
    }

    private static void sameFramesAreBothSent() {
        Due.sentence("Terms: its frame is sent, of each sender that has seen the last 1");
        SharedWire x = Lines.sendingFive(0);
        x.want(2, false, 5, 0xA5, 1);
        Due.is("one line", Due.levels(x, 55), Lines.answered(Lines.FIVE));
        Due.is("both are sent", Lines.ofAll(x, 4), "1 0 1 0");
        Due.is("none is wanted", Lines.ofAll(x, 3), "0 0 0 0");
        Due.is("the others received one, the senders none", Lines.ofAll(x, 5), "0 1 0 1");
    }

    private static void sameIdentifierOtherSize() {
        Due.sentence("Terms: otherwise it is fault 4: two of the same identifier");
        SharedWire x = Lines.sendingFive(0);
        x.want(2, false, 5, 0, 0);
        x.step(20, 0);
        Due.is("the same as yet", Lines.roles(x), "3232");
        x.step(1, 0);
        Due.is("who sends the higher has a fault", Lines.allTold(x), "1 8 0 4, 1 0 0 0, 1 0 0 0, 1 0 0 0");
        Due.is("and it breaks the frame off for all", x.wire(), 2);
        SharedWire data = Lines.sendingFive(0);
        data.want(3, false, 5, 0x25, 1);
        data.step(21, 0);
        Due.is("the same as yet", Lines.roles(data), "3223");
        data.step(1, 0);
        Due.is("the first bit of the data", Lines.allTold(data), "1 8 0 4, 1 0 0 0, 1 0 0 0, 1 0 0 0");
    }

    private static String seenOtherwise(Model.Want want, int place) {
        SharedWire x = new SharedWire();
        x.want(0, want.isLong(), want.identifier(), want.data(), want.n());
        if (place > 0) {
            x.step(place, 0);
        }
        x.step(1, 1);
        return Lines.told(x, 0) + " wire " + x.wire();
    }

    /** Nothing is stuffed in here up to the number of bytes, 8, whose first bit is 1. */
    private static void theLastBitThatLoses() {
        Due.sentence("Terms: more than two bits were to come before the number of bytes: it loses; otherwise fault 4");
        String loses = "2 0 0 0 wire 1";
        String fault = "1 8 0 4 wire 2";
        Model.Want shortOne = new Model.Want(false, 0x555, -1, 8);
        Due.is("the first bit of the identifier", seenOtherwise(shortOne, 1), loses);
        Due.is("the last bit of the identifier, three to come", seenOtherwise(shortOne, 11), loses);
        Due.is("the first of 0 0 0", seenOtherwise(shortOne, 12), fault);
        Due.is("the last of 0 0 0", seenOtherwise(shortOne, 14), fault);
        Due.is("the first of the number of bytes", seenOtherwise(shortOne, 15), fault);
        Due.is("a 0 of the identifier", seenOtherwise(shortOne, 2), fault);
        Model.Want longOne = new Model.Want(true, 0x15555555, -1, 8);
        Due.is("the last of the 11 bits", seenOtherwise(longOne, 11), loses);
        Due.is("the first of 1 1", seenOtherwise(longOne, 12), loses);
        Due.is("the second of 1 1", seenOtherwise(longOne, 13), loses);
        Due.is("a 0 of the other 18", seenOtherwise(longOne, 14), fault);
        Due.is("the last of the other 18, three to come", seenOtherwise(longOne, 31), loses);
        Due.is("the first of 0 0 0", seenOtherwise(longOne, 32), fault);
        Due.is("the first of the number of bytes", seenOtherwise(longOne, 35), fault);
    }

    private static void eachBitSeenOtherwise() {
        Due.sentence("Terms: if it sees another one: at the answer 5, loses, otherwise 4");
        for (Edge edge : Edge.ALL) {
            String[] line = Model.line(edge.want());
            for (int i = 0; i < line[0].length(); i++) {
                boolean loses = line[0].charAt(i) == '1' && line[1].charAt(i) == 'i';
                String fault = line[1].charAt(i) == 'a' ? "1 8 0 5 wire 2" : "1 8 0 4 wire 2";
                String due = loses ? "2 0 0 0 wire 1" : fault;
                Due.is("bit " + i + " of " + edge.what(), seenOtherwise(edge.want(), i), due);
            }
        }
    }

    private static void oneStuffedInDoesNotLose() {
        Due.sentence("Terms: if it sent 1, not as one stuffed in");
        Model.Want zeros = new Model.Want(false, 1, 0, 0);
        Due.is("the 1 stuffed in behind five 0", seenOtherwise(zeros, 5), "1 8 0 4 wire 2");
        Due.is("the next one", seenOtherwise(zeros, 11), "1 8 0 4 wire 2");
        Due.is("the 1 of the identifier behind it", seenOtherwise(zeros, 13), "2 0 0 0 wire 1");
        Model.Want ones = new Model.Want(true, Lines.LONGEST_IDENTIFIER, 0, 0);
        Due.is("the 0 stuffed in behind five 1", seenOtherwise(ones, 6), "1 8 0 4 wire 2");
        Due.is("the fifth 1 before it", seenOtherwise(ones, 5), "2 0 0 0 wire 1");
        Due.is("the 1 behind it", seenOtherwise(ones, 7), "2 0 0 0 wire 1");
    }

    /** Node 0 loses at the last bit of 5, so that all go on reading 4, of which only 1 come. */
    private static void whoLosesReadsOn() {
        Due.sentence("Terms: a reader from there on (that has read what it sent up to there, and this 0)");
        SharedWire x = Lines.sendingFive(Lines.FIVE_LAST_OF_IDENTIFIER);
        x.step(1, 1);
        // Node 0 has read 0 there, the others 1: behind it they see 1 only.
        x.step(4, 0);
        Due.is("the others have five 1", Lines.allTold(x), "2 0 0 0, 2 0 0 0, 2 0 0 0, 2 0 0 0");
        x.step(1, 0);
        Due.is("they find a sixth, node 0 does not", Lines.allTold(x), "1 0 0 0, 1 0 1 1, 1 0 1 1, 1 0 1 1");
        Due.is("it is wanted still", x.node(0, 3), 1);
        // It has sent four 0 and then loses: this 0 is the fifth, so a sixth is a fault of it.
        SharedWire four = new SharedWire();
        four.want(0, false, 0x0FF, 0, 0);
        four.step(4, 0);
        four.step(1, 1);
        Due.is("it has lost", Lines.told(four, 0), "2 0 0 0");
        four.step(1, 1);
        Due.is("a sixth 0", Lines.told(four, 0), "1 0 1 1");
    }

    private static void whoLosesAtThe12thReadsOn() {
        Due.sentence("Terms: a reader from there on: a long one that lost to a short one");
        SharedWire x = new SharedWire();
        x.want(0, true, 0x15555555, 0x77, 1);
        x.want(1, false, 0x555, 0x66, 1);
        x.step(200, 0);
        Due.is("both came", x.node(2, 5), 2);
        Due.is("who lost received the short one", Due.receivedOf(x, 0), 0x555 + " 0 1 " + 0x66);
        Due.is("who won received the long one", Due.receivedOf(x, 1), 0x15555555 + " 1 1 " + 0x77);
    }

    private static void theAnswer() {
        Due.sentence("Terms: at the answer, that is right (if it sees 1 there, it is fault 5)");
        SharedWire right = Lines.sendingFive(Lines.FIVE_ANSWER);
        Due.is("an answer", right.step(1, 0), 0);
        Due.is("it goes on", Lines.roles(right), "3222");
        SharedWire x = Lines.sendingFive(Lines.FIVE_ANSWER);
        Due.is("there is an answer", x.step(1, 1), 0);
        Due.is("but it is not seen", Lines.allTold(x), "1 8 0 5, 1 0 0 0, 1 0 0 0, 1 0 0 0");
        SharedWire y = allReadersWrong();
        Due.is("there is no answer", y.step(1, 0), 1);
        Due.is("and the sender finds it first", Lines.allTold(y), "1 8 0 5, 1 0 0 0, 1 0 0 0, 1 0 0 0");
        SharedWire two = Lines.wanting(3);
        two.step(Lines.FIVE_ANSWER, 0);
        two.step(1, 2);
        Due.is("one of two senders does not see it", Lines.allTold(two), "1 0 0 0, 1 8 0 5, 1 0 0 0, 1 0 0 0");
        SharedWire none = Lines.wanting(15);
        none.step(Lines.FIVE_ANSWER + 1, 0);
        Due.is("all are senders", Lines.allTold(none), "1 8 0 5, 1 8 0 5, 1 8 0 5, 1 8 0 5");
    }

    /** A byte of the frame is seen otherwise by all who read it; the answer is to come. */
    private static SharedWire allReadersWrong() {
        SharedWire x = Lines.sendingFive(26);
        x.step(1, 14);
        x.step(Lines.FIVE_ANSWER - 27, 0);
        return x;
    }

    private static void aWrongAnswerIsRight() {
        Due.sentence("Terms: at the answer, that is right, whoever it is from");
        SharedWire x = allReadersWrong();
        Due.is("nobody answers", x.step(1, 1), 1);
        Due.is("but the sender has seen a 0", Lines.allTold(x), "3 0 0 0, 2 0 0 0, 2 0 0 0, 2 0 0 0");
        x.step(1, 0);
        Due.is("the readers break it off", Lines.allTold(x), "1 0 0 0, 1 0 1 2, 1 0 1 2, 1 0 1 2");
    }

    private static void sentWithTheLast1() {
        Due.sentence("Terms: a sender has seen the last 1: its frame is sent: it does not want it any more");
        SharedWire x = Lines.sendingFive(54);
        Due.is("before: wanted, sent", x.node(0, 3) + " " + x.node(0, 4), "1 0");
        x.step(1, 0);
        Due.is("behind: wanted, sent", x.node(0, 3) + " " + x.node(0, 4), "0 1");
        SharedWire y = Lines.sendingFive(54);
        y.step(1, 1);
        Due.is("a last 0: wanted, sent", y.node(0, 3) + " " + y.node(0, 4), "1 0");
        Due.is("a last 0", Lines.allTold(y), "1 8 0 4, 1 0 0 0, 1 0 0 0, 1 0 0 0");
    }
}
