import java.util.ArrayList;
import java.util.List;

/**
 * The document once more, written as plainly as can be, with texts of bits: each reader keeps all
 * that it has read and looks at it anew from its beginning. It is compared with the program.
 */
final class Model {
    /** What a text of bits is for a reader: a fault with the last bit, or which part comes next. */
    record Reading(int fault, boolean ended, boolean answerNext, boolean checkRight, int used, Want frame) {
    }

    record Want(boolean isLong, int identifier, long data, int n) {
        int high() {
            return isLong ? identifier >> 18 : identifier;
        }

        boolean isBefore(Want other) {
            if (high() != other.high()) {
                return high() < other.high();
            }
            if (isLong != other.isLong) {
                return other.isLong;
            }
            return identifier < other.identifier;
        }
    }

    static final class Node {
        boolean on = true;
        final List<Want> wants = new ArrayList<>();
        /** Null for one that is no sender. */
        Want sends = null;
        String line = "";
        String kinds = "";
        int at = 0;
        /** Null for one that is no reader. */
        String reads = null;
        int sending = 0;
        int receiving = 0;
        int sent = 0;
        int received = 0;
        int lastFault = 0;
        int found = 0;
        Want last = null;

        Want offers() {
            Want first = null;
            for (Want want : wants) {
                if (first == null || want.isBefore(first)) {
                    first = want;
                }
            }
            return first;
        }

        int role() {
            return !on ? 0 : sends != null ? 3 : reads != null ? 2 : 1;
        }
    }

    final Node[] nodes = {new Node(), new Node(), new Node(), new Node()};
    String tape = "";
    int wire = 0;
    int since = 0;
    int losses = 0;
    final int[] faults = new int[6];

    static String number(long value, int bits) {
        String text = "0".repeat(64) + Long.toBinaryString(value);
        return text.substring(text.length() - bits);
    }

    /** The remainder of the bits, with fifteen 0 behind, by 1 and 0x4599. */
    static String check(String bits) {
        char[] rest = (bits + "0".repeat(15)).toCharArray();
        String by = "1" + number(0x4599, 15);
        for (int i = 0; i < bits.length(); i++) {
            if (rest[i] == '1') {
                for (int k = 0; k < 16; k++) {
                    rest[i + k] = rest[i + k] == by.charAt(k) ? '0' : '1';
                }
            }
        }
        return new String(rest).substring(bits.length());
    }

    static String head(Want want) {
        if (!want.isLong()) {
            return "0" + number(want.identifier(), 11) + "000";
        }
        return "0" + number(want.identifier() >> 18, 11) + "11" + number(want.identifier(), 18) + "000";
    }

    static String frame(Want want) {
        StringBuilder bits = new StringBuilder(head(want)).append(number(want.n(), 4));
        for (int i = 0; i < want.n(); i++) {
            bits.append(number(want.data() >>> 8 * i, 8));
        }
        return bits + check(bits.toString());
    }

    static boolean endsWithFive(String bits) {
        return bits.endsWith("00000") || bits.endsWith("11111");
    }

    static String other(String bits) {
        return bits.endsWith("0") ? "1" : "0";
    }

    /**
     * The line, and for each of its bits: i while more than two are to come before the number of
     * bytes, f the frame's others, s stuffed in, a the answer, t the rest.
     */
    static String[] line(Want want) {
        return line(frame(want), head(want).length());
    }

    /** The line of these bits and their check, whatever they are. */
    static String lineOf(String bits) {
        return line(bits + check(bits), 0)[0];
    }

    private static String[] line(String bits, int head) {
        String line = "";
        String kinds = "";
        for (int i = 0; i < bits.length(); i++) {
            line += bits.charAt(i);
            kinds += i < head - 3 ? "i" : "f";
            if (endsWithFive(line) && i < bits.length() - 1) {
                line += other(line);
                kinds += "s";
            }
        }
        return new String[] {line + "1111111111", kinds + "tatttttttt"};
    }

    /** How many bits a frame has that begins so (at least, if that is not known yet). */
    static int wholeLength(String bits) {
        boolean isLong = bits.length() > 13 && bits.charAt(13) == '1';
        int head = isLong ? 35 : 15;
        if (bits.length() < head + 4) {
            return head + 19;
        }
        return head + 19 + 8 * Math.min(8, Integer.parseInt(bits.substring(head, head + 4), 2));
    }

    static Want wantOf(String bits) {
        boolean isLong = bits.charAt(13) == '1';
        int head = isLong ? 35 : 15;
        String identifier = bits.substring(1, 12) + (isLong ? bits.substring(14, 32) : "");
        int n = (wholeLength(bits) - head - 19) / 8;
        long data = 0;
        for (int i = n - 1; i >= 0; i--) {
            int from = head + 4 + 8 * i;
            data = data << 8 | Integer.parseInt(bits.substring(from, from + 8), 2);
        }
        return new Want(isLong, Integer.parseInt(identifier, 2), data, n);
    }

    static Reading fault(int fault, int at) {
        return new Reading(fault, false, false, false, at, null);
    }

    /** Reads the text from its beginning; used is the bit with the fault, or behind the frame. */
    static Reading reading(String text) {
        if (text.startsWith("1")) {
            return fault(3, 0);
        }
        String bits = "";
        String before = "";
        int i = 0;
        while (i < text.length() && bits.length() < wholeLength(bits)) {
            String bit = text.substring(i, i + 1);
            if (!endsWithFive(before)) {
                bits += bit;
            } else if (!bit.equals(other(before))) {
                return fault(1, i);
            } else {
                before = "";
            }
            before += bit;
            i++;
        }
        if (bits.length() < wholeLength(bits)) {
            return new Reading(0, false, false, false, i, null);
        }
        String checked = bits.substring(0, bits.length() - 15);
        return tailReading(text, i, bits.endsWith(check(checked)), wantOf(bits));
    }

    private static Reading tailReading(String text, int from, boolean right, Want want) {
        int tail = Math.min(10, text.length() - from);
        for (int k = 0; k < tail; k++) {
            if (k == 2 && !right) {
                return fault(2, from + k);
            }
            if (k != 1 && text.charAt(from + k) == '0') {
                return fault(3, from + k);
            }
        }
        return new Reading(0, tail == 10, tail == 1, right, from + tail, want);
    }

    int read() {
        Reading all = reading(tape);
        if (all.fault() != 0) {
            return 1000 * all.fault() + all.used();
        }
        if (!all.ended()) {
            return 4000 + tape.length();
        }
        return all.used() < tape.length() ? 5000 + all.used() : 0;
    }

    int step(int disturbed) {
        if (wire == 2) {
            since++;
            int level = since <= 6 ? 0 : 1;
            if (since == 14) {
                turn(3);
            }
            return level;
        }
        if (wire == 3) {
            since++;
            if (since == 3) {
                turn(0);
            }
            return 1;
        }
        if (wire == 0) {
            for (Node node : nodes) {
                begin(node);
            }
        }
        int level = 1;
        for (Node node : nodes) {
            level = Math.min(level, sentBy(node));
        }
        boolean broken = false;
        for (int i = 0; i < 4; i++) {
            boolean other = (disturbed & 1 << i) != 0;
            nodes[i].found = 0;
            if (nodes[i].on) {
                see(nodes[i], other ? 1 - level : level);
            }
            broken |= nodes[i].found != 0;
        }
        if (broken) {
            breakOff();
        } else {
            end();
        }
        return level;
    }

    private void turn(int to) {
        wire = to;
        since = 0;
    }

    private static void begin(Node node) {
        if (node.on && node.offers() != null) {
            node.sends = node.offers();
            String[] line = line(node.sends);
            node.line = line[0];
            node.kinds = line[1];
            node.at = 0;
        }
    }

    private static int sentBy(Node node) {
        if (node.sends != null) {
            return node.line.charAt(node.at) - '0';
        }
        if (node.reads != null) {
            Reading soFar = reading(node.reads);
            return soFar.answerNext() && soFar.checkRight() ? 0 : 1;
        }
        return 1;
    }

    private void see(Node node, int seen) {
        if (node.sends != null) {
            seeAsSender(node, seen);
        } else if (node.reads != null) {
            node.reads += seen;
            node.found = reading(node.reads).fault();
        } else if (seen == 0) {
            node.reads = "0";
        }
    }

    private void seeAsSender(Node node, int seen) {
        char kind = node.kinds.charAt(node.at);
        int sent = node.line.charAt(node.at) - '0';
        if (kind == 'a') {
            node.found = seen == 1 ? 5 : 0;
            node.at++;
        } else if (seen == sent) {
            node.at++;
        } else if (sent == 1 && kind == 'i') {
            node.reads = node.line.substring(0, node.at) + "0";
            node.sends = null;
            losses++;
        } else {
            node.found = 4;
        }
    }

    private void breakOff() {
        for (Node node : nodes) {
            if (node.found != 0) {
                faults[node.found]++;
                node.lastFault = node.found;
                node.sending += node.sends != null ? 8 : 0;
                node.receiving += node.reads != null ? 1 : 0;
                node.on = node.sending <= 255;
            }
            node.sends = null;
            node.reads = null;
        }
        turn(2);
    }

    private void end() {
        int busy = 0;
        for (Node node : nodes) {
            if (node.sends != null && node.at == node.line.length()) {
                removeSame(node.wants, node.sends);
                node.sends = null;
                node.sent++;
                node.sending -= node.sending > 0 ? 1 : 0;
            } else if (node.reads != null && reading(node.reads).ended()) {
                node.last = reading(node.reads).frame();
                node.reads = null;
                node.received++;
                node.receiving -= node.receiving > 0 ? 1 : 0;
            }
            busy += node.sends != null || node.reads != null ? 1 : 0;
        }
        if (busy > 0) {
            wire = 1;
        } else if (wire == 1) {
            turn(3);
        }
    }

    private static void removeSame(List<Want> wants, Want sent) {
        for (int i = 0; i < wants.size(); i++) {
            if (wants.get(i) == sent) {
                wants.remove(i);
                return;
            }
        }
    }
}
