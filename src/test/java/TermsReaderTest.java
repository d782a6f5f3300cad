/** Terms: nodes that read: the faults 1, 2 and 3 on the wire, the answer, and when a frame is received. */
public final class TermsReaderTest {
    public static void main(String[] args) {
        stuffingFault();
        checkFault();
        formFaults();
        answersIfTheCheckIsRight();
        anythingAtTheAnswer();
        receivedWithTheLast1();
        oneEndsBeforeTheOther();
        oneBeginsWithTheLastBit();
        Due.end();
    }

    /** Node 1 is disturbed there, and must find that fault at once. */
    private static void finds(int fault, int place) {
        SharedWire x = Lines.sendingFive(place);
        Due.is("nothing is found before " + place, Lines.allTold(x), "3 0 0 0, 2 0 0 0, 2 0 0 0, 2 0 0 0");
        x.step(1, 2);
        Due.is("disturbed at " + place, Lines.allTold(x), "1 0 0 0, 1 0 1 " + fault + ", 1 0 0 0, 1 0 0 0");
        Due.is("broken at " + place, x.wire(), 2);
        Due.is("not sent at " + place, Lines.ofAll(x, 4), "0 0 0 0");
        Due.is("not received at " + place, Lines.ofAll(x, 5), "0 0 0 0");
    }

    private static void stuffingFault() {
        Due.sentence("Terms: a bit where one is stuffed in must be the other one (else fault 1)");
        finds(1, Lines.FIVE_STUFFED);
        finds(1, 18);
        finds(1, 40);
        SharedWire four = Lines.sendingFive(4);
        four.step(1, 2);
        Due.is("the fifth alike may be any", four.wire(), 1);
    }

    private static void checkFault() {
        Due.sentence("Terms: if the check is not that of the bits, it is fault 2 there, whatever it is");
        for (int place : new int[] {8, 26, 44}) {
            SharedWire x = Lines.sendingFive(place);
            x.step(1, 2);
            x.step(Lines.FIVE_ANSWER - place - 1, 0);
            Due.is("the others answer", x.step(1, 0), 0);
            Due.is("nothing is found yet", Lines.allTold(x), "3 0 0 0, 2 0 0 0, 2 0 0 0, 2 0 0 0");
            x.step(1, 0);
            Due.is("found at the answer's end", Lines.allTold(x), "1 0 0 0, 1 0 1 2, 1 0 0 0, 1 0 0 0");
            Due.is("broken", x.wire(), 2);
        }
        SharedWire y = Lines.sendingFive(26);
        y.step(1, 2);
        y.step(Lines.FIVE_END - 27, 0);
        y.step(1, 2);
        Due.is("an end of 0 is fault 2 too", Lines.told(y, 1), "1 0 1 2");
    }

    private static void formFaults() {
        Due.sentence("Terms: the delimiter, the answer's end and seven times 1 (else fault 3)");
        finds(3, Lines.FIVE_DELIMITER);
        for (int place = Lines.FIVE_END; place <= 54; place++) {
            finds(3, place);
        }
    }

    private static void answersIfTheCheckIsRight() {
        Due.sentence("Terms: a reader sends 1, but 0 at the answer, if the check is right");
        for (int wrong = 0; wrong <= 14; wrong += 2) {
            SharedWire x = Lines.sendingFive(26);
            x.step(1, wrong);
            Due.is("no 0 before it", x.step(Lines.FIVE_DELIMITER - 26, 0), 1);
            Due.is("wrong for " + wrong, x.step(1, 0), wrong == 14 ? 1 : 0);
        }
        SharedWire alone = Lines.withOff(12);
        alone.want(0, false, 5, 0xA5, 1);
        Due.is("one reader, a right check", Due.levels(alone, 55), Lines.answered(Lines.FIVE));
    }

    private static void anythingAtTheAnswer() {
        Due.sentence("Terms: the answer may be anything");
        SharedWire x = Lines.sendingFive(Lines.FIVE_ANSWER);
        Due.is("there is an answer", x.step(1, 14), 0);
        x.step(8, 0);
        Due.is("readers that saw 1 there", Lines.ofAll(x, 5), "0 1 1 1");
        Due.is("and it is sent", x.node(0, 4), 1);
    }

    private static void receivedWithTheLast1() {
        Due.sentence("Terms: if no node found one, each reader that has read the last 1 has received the frame");
        SharedWire before = Lines.sendingFive(54);
        Due.is("before the last bit", Lines.ofAll(before, 5), "0 0 0 0");
        before.step(1, 0);
        Due.is("behind it", Lines.ofAll(before, 5), "0 1 1 1");
        SharedWire x = Lines.sendingFive(54);
        x.step(1, 2);
        Due.is("one has found a fault there: nobody has received it", Lines.ofAll(x, 5), "0 0 0 0");
        Due.is("nor is it sent", Lines.ofAll(x, 4), "0 0 0 0");
        Due.is("the counts", Lines.allTold(x), "1 0 0 0, 1 0 1 3, 1 0 0 0, 1 0 0 0");
        x.step(17 + 55, 0);
        Due.is("it comes again", Lines.ofAll(x, 5), "0 1 1 1");
        SharedWire sender = Lines.sendingFive(54);
        sender.step(1, 1);
        Due.is("the sender has found one there", Lines.ofAll(sender, 5), "0 0 0 0");
    }

    private static String[] twoSee(String line, String late) {
        String none = "1".repeat(line.length());
        return new String[] {none, line, late, none};
    }

    private static void oneEndsBeforeTheOther() {
        Due.sentence("Terms: when there is no sender and no reader any more, a pause begins");
        String line = Lines.FIVE;
        SharedWire x = new SharedWire();
        Shown.toAll(x, twoSee(line, "1111" + line.substring(0, 51)), Lines.FIVE_ANSWER, Lines.FIVE_ANSWER + 4);
        Due.is("node 1 has ended, node 2 not", Lines.allTold(x), "1 0 0 0, 1 0 0 0, 2 0 0 0, 1 0 0 0");
        Due.is("node 1 alone has received", Lines.ofAll(x, 5), "0 1 0 0");
        Due.is("busy still", x.wire(), 1);
        x.want(1, false, 0, 0, 0);
        x.step(3, 0);
        Due.is("nobody begins", Lines.allTold(x), "1 0 0 0, 1 0 0 0, 2 0 0 0, 1 0 0 0");
        Due.is("busy still", x.wire(), 1);
        x.step(1, 0);
        Due.is("both have received", Lines.ofAll(x, 5), "0 1 1 0");
        Due.is("the pause", x.wire(), 3);
    }

    private static void oneBeginsWithTheLastBit() {
        Due.sentence("Terms: when there is no reader any more: one that sees 0 with another's last bit is one");
        SharedWire x = Lines.sendingFive(0);
        x.step(54, 0);
        x.step(1, 0);
        Due.is("none: the pause", x.wire(), 3);
        String line = Lines.FIVE;
        SharedWire y = new SharedWire();
        Shown.toAll(y, twoSee(line, "1".repeat(54) + "0"), Lines.FIVE_ANSWER, -1);
        Due.is("node 1 has received, node 2 begins", Lines.ofAll(y, 5) + ": " + Lines.roles(y), "0 1 0 0: 1121");
        Due.is("so it is busy", y.wire(), 1);
        y.step(6, 0);
        Due.is("until node 2 finds a fault", Lines.told(y, 2), "1 0 1 1");
    }
}
