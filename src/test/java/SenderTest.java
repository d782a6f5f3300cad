/** Promise 3: who goes on among senders, who loses, and the faults 4 and 5. */
public final class SenderTest {
    private static final int LONGEST = (1 << 29) - 1;

    public static void main(String[] args) {
        lowerGoesOn();
        shortGoesOnBeforeLong();
        longOnesByTheirOtherBits();
        sameFramesAreBothSent();
        sameIdentifierOtherSize();
        losesInTheIdentifier();
        losesInALongIdentifier();
        faultsOfASender();
        noAnswer();
        loserReadsOn();
        sendingGoesOnWhateverIsWanted();
        firstInOrderBehindAFault();
        countsAndOff();
        justNotOff();
        noneOn();
        Due.end();
    }

    private static void lowerGoesOn() {
        SharedWire x = Lines.sendingFive(0);
        x.want(1, false, 4, 2, 2);
        x.want(2, false, 2047, 0, 0);
        x.step(1, 0);
        Due.is("all three begin", Lines.allTold(x), "3 0 0 0, 3 0 0 0, 3 0 0 0, 2 0 0 0");
        // 2047 sends 1 at bit 1; 5 sends 1 as its last but 4 sends 0.
        x.step(1, 0);
        Due.is("2047 loses", Lines.allTold(x), "3 0 0 0, 3 0 0 0, 2 0 0 0, 2 0 0 0");
        x.step(10, 0);
        Due.is("5 goes on", Lines.allTold(x), "3 0 0 0, 3 0 0 0, 2 0 0 0, 2 0 0 0");
        Due.is("the level is 4's", x.step(1, 0), 0);
        Due.is("5 loses", Lines.allTold(x), "2 0 0 0, 3 0 0 0, 2 0 0 0, 2 0 0 0");
        x.step(51, 0);
        Due.is("4 is sent", x.node(1, 4), 1);
        for (int node = 0; node < 4; node++) {
            Due.is("received by " + node, x.node(node, 5), node == 1 ? 0 : 1);
        }
        Due.is("who lost received 4", Due.receivedOf(x, 0), "4 0 2 2");
        Due.is("who lost received 4", Due.receivedOf(x, 2), "4 0 2 2");
        Due.is("and wants still", x.node(0, 3) + x.node(2, 3), 2);
        x.step(3, 0);
        Due.is("5 comes next", Due.levels(x, 55), Lines.answered(Lines.FIVE));
        x.step(200, 0);
        Due.is("2047 comes last", Due.receivedOf(x, 0), "2047 0 0 0");
    }

    private static void shortGoesOnBeforeLong() {
        SharedWire x = Lines.sendingFive(0);
        x.want(1, true, 5 << 18, 0, 0);
        x.step(13, 0);
        Due.is("the same as yet", Lines.allTold(x), "3 0 0 0, 3 0 0 0, 2 0 0 0, 2 0 0 0");
        x.step(1, 0);
        Due.is("the long one loses at the 12th", Lines.allTold(x), "3 0 0 0, 2 0 0 0, 2 0 0 0, 2 0 0 0");
        x.step(200, 0);
        Due.is("both are sent", x.node(0, 4) * 10 + x.node(1, 4), 11);
        Due.is("the short one was first", Due.receivedOf(x, 2), (5 << 18) + " 1 0 0");
    }

    private static void longOnesByTheirOtherBits() {
        SharedWire x = new SharedWire();
        x.want(0, true, LONGEST, 0, 0);
        x.want(1, true, LONGEST - 1, 0, 0);
        x.step(37, 0);
        Due.is("the same as yet", Lines.allTold(x), "3 0 0 0, 3 0 0 0, 2 0 0 0, 2 0 0 0");
        x.step(1, 0);
        Due.is("the last bit tells", Lines.allTold(x), "2 0 0 0, 3 0 0 0, 2 0 0 0, 2 0 0 0");
        x.step(100, 0);
        Due.is("received", Due.receivedOf(x, 0), (LONGEST - 1) + " 1 0 0");
    }

    private static void sameFramesAreBothSent() {
        SharedWire x = Lines.sendingFive(0);
        x.want(2, false, 5, 0xA5, 1);
        Due.is("one line", Due.levels(x, 55), Lines.answered(Lines.FIVE));
        Due.is("both are sent", x.node(0, 4) * 10 + x.node(2, 4), 11);
        Due.is("none is wanted", x.node(0, 3) + x.node(2, 3), 0);
        Due.is("the others received one", x.node(1, 5) * 10 + x.node(3, 5), 11);
        Due.is("the senders none", x.node(0, 5) + x.node(2, 5), 0);
    }

    private static void sameIdentifierOtherSize() {
        SharedWire x = Lines.sendingFive(0);
        x.want(2, false, 5, 0, 0);
        x.step(20, 0);
        Due.is("the same as yet", Lines.allTold(x), "3 0 0 0, 2 0 0 0, 3 0 0 0, 2 0 0 0");
        x.step(1, 0);
        Due.is("who sends the higher has a fault", Lines.allTold(x), "1 8 0 4, 1 0 0 0, 1 0 0 0, 1 0 0 0");
        Due.is("and it breaks the frame off for all", x.wire(), 2);
    }

    private static void losesInTheIdentifier() {
        int[] places = {10, Lines.FIVE_LAST_OF_IDENTIFIER};
        for (int i : places) {
            SharedWire x = Lines.sendingFive(i);
            Due.is("the level at " + i, x.step(1, 1), 1);
            Due.is("loses at " + i, Lines.allTold(x), "2 0 0 0, 2 0 0 0, 2 0 0 0, 2 0 0 0");
            Due.is("busy still", x.wire(), 1);
        }
    }

    /** All bits of this one are 1, so bit p of it comes behind (p - 1) / 5 that are stuffed in. */
    private static void losesInALongIdentifier() {
        for (int p = 1; p <= 31; p++) {
            SharedWire x = new SharedWire();
            x.want(0, true, LONGEST, -1, 8);
            x.step(p + (p - 1) / 5, 0);
            x.step(1, 1);
            Due.is("loses at " + p, Lines.told(x, 0), "2 0 0 0");
        }
        for (int stuffed = 6; stuffed <= 36; stuffed += 6) {
            SharedWire x = new SharedWire();
            x.want(0, true, LONGEST, -1, 8);
            x.step(stuffed, 0);
            x.step(1, 1);
            Due.is("a fault where 0 is stuffed in, at " + stuffed, Lines.told(x, 0), "1 8 0 4");
        }
    }

    private static void faultsOfASender() {
        for (int i = 0; i < Lines.FIVE.length(); i++) {
            boolean loses = i == 10 || i == Lines.FIVE_LAST_OF_IDENTIFIER;
            if (loses || i == Lines.FIVE_ANSWER) {
                continue;
            }
            SharedWire x = Lines.sendingFive(i);
            x.step(1, 1);
            Due.is("a fault at " + i, Lines.allTold(x), "1 8 0 4, 1 0 0 0, 1 0 0 0, 1 0 0 0");
            Due.is("broken at " + i, x.wire(), 2);
            Due.is("wanted still at " + i, x.node(0, 3), 1);
            Due.is("not sent at " + i, x.node(0, 4), 0);
            Due.is("not received at " + i, x.node(1, 5), 0);
        }
    }

    private static void noAnswer() {
        SharedWire x = Lines.sendingFive(Lines.FIVE_ANSWER);
        Due.is("there is an answer", x.step(1, 1), 0);
        Due.is("but it is not seen", Lines.allTold(x), "1 8 0 5, 1 0 0 0, 1 0 0 0, 1 0 0 0");
        // All others read a wrong byte: none of them answers.
        SharedWire y = Lines.sendingFive(26);
        y.step(1, 14);
        y.step(Lines.FIVE_ANSWER - 27, 0);
        Due.is("there is no answer", y.step(1, 0), 1);
        Due.is("and the sender finds it first", Lines.allTold(y), "1 8 0 5, 1 0 0 0, 1 0 0 0, 1 0 0 0");
    }

    /** Node 0 loses at the last bit of 5, so that all go on reading 4, of which only 1 come. */
    private static void loserReadsOn() {
        SharedWire x = Lines.sendingFive(Lines.FIVE_LAST_OF_IDENTIFIER);
        x.step(1, 1);
        // Node 0 has read 0 there, the others 1: behind it they see 1 only.
        x.step(4, 0);
        Due.is("the others have five 1", Lines.allTold(x), "2 0 0 0, 2 0 0 0, 2 0 0 0, 2 0 0 0");
        x.step(1, 0);
        Due.is("they find a sixth", Lines.allTold(x), "1 0 0 0, 1 0 1 1, 1 0 1 1, 1 0 1 1");
        Due.is("it is wanted still", x.node(0, 3), 1);
    }

    private static void sendingGoesOnWhateverIsWanted() {
        SharedWire x = Lines.sendingFive(1);
        x.want(0, false, 0, 0, 0);
        x.want(0, false, 5, 1, 1);
        Due.is("the line goes on", Due.levels(x, 54), Lines.answered(Lines.FIVE).substring(1));
        Due.is("it is 5 that was sent", Due.receivedOf(x, 1), "5 0 1 165");
        x.step(60, 0);
        Due.is("then 0", Due.receivedOf(x, 1), "0 0 0 0");
        x.step(60, 0);
        Due.is("then the other 5", Due.receivedOf(x, 1), "5 0 1 1");
    }

    private static void firstInOrderBehindAFault() {
        SharedWire x = Lines.sendingFive(1);
        x.want(0, false, 0, 0, 0);
        x.step(1, 1);
        x.step(17 + 50, 0);
        Due.is("0 comes first now", Due.receivedOf(x, 1), "0 0 0 0");
        Due.is("5 is wanted still", x.node(0, 3), 1);
    }

    private static void countsAndOff() {
        SharedWire x = Lines.sendingFive(0);
        for (int i = 1; i <= 31; i++) {
            Lines.spoil(x, 1);
            Due.is("count of sending", x.node(0, 1), 8 * i);
            Due.is("on still", x.node(0, 0), 1);
        }
        x.step(1, 1);
        Due.is("off", Lines.told(x, 0), "0 256 0 4");
        Due.is("broken", x.wire(), 2);
        Due.is("six 0 while it is broken", x.step(6, 0), 0);
        Due.is("an off node does not send", x.step(200, 0), 1);
        Due.is("at rest", x.wire(), 0);
        x.step(1, 1);
        Due.is("an off node sees nothing", x.wire(), 0);
        x.want(1, false, 5, 0xA5, 1);
        Due.is("others do", Due.levels(x, 55), Lines.answered(Lines.FIVE));
        Due.is("an off node receives nothing", x.node(0, 5), 0);
        Due.is("all of an off node is left", Lines.told(x, 0), "0 256 0 4");
    }

    private static void justNotOff() {
        SharedWire x = Lines.sendingFive(0);
        Lines.spoil(x, 31);
        x.step(58, 0);
        Due.is("one less for a frame sent", x.node(0, 1), 247);
        x.want(0, false, 5, 0xA5, 1);
        Lines.spoil(x, 1);
        Due.is("255 is on", Lines.told(x, 0), "1 255 0 4");
        x.step(58, 0);
        Due.is("one less", x.node(0, 1), 254);
        x.want(0, false, 5, 0xA5, 1);
        Lines.spoil(x, 1);
        Due.is("262 is off", Lines.told(x, 0), "0 262 0 4");
    }

    private static void noneOn() {
        SharedWire x = new SharedWire();
        for (int node = 0; node < 4; node++) {
            x.want(node, false, 5, 0xA5, 1);
        }
        for (int i = 0; i < 32; i++) {
            x.step(1, 15);
            x.step(17, 0);
        }
        Due.is("all are off", Lines.allTold(x), "0 256 0 4, 0 256 0 4, 0 256 0 4, 0 256 0 4");
        Due.is("the level is 1", x.step(1, 0), 1);
        Due.is("whoever is disturbed", x.step(1, 15), 1);
        Due.is("at rest", x.wire(), 0);
    }
}
