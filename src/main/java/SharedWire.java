import java.util.NoSuchElementException;

/** A wire that all nodes pull down and none pushes up, after CAN 2.0. */
public final class SharedWire {
    public static final int NONE = -1;

    private static final int NODES = 4;
    private static final int MOST_WANTED = 4;
    private static final int MOST_BYTES = 8;
    private static final int MOST_STEPS = 200;
    private static final int ALL_DISTURBED = 15;
    private static final int TAPE_ROOM = 200;
    private static final int WORD_BITS = 64;
    /** The longest frame has 118 bits, 29 stuffed in and 10 behind: 157. */
    private static final int LINE_ROOM = 160;

    private static final int SHORT_BITS = 11;
    private static final int LONG_BITS = 29;
    private static final int LOW_BITS = LONG_BITS - SHORT_BITS;
    private static final int LONG_MARK = 13;
    private static final int SHORT_HEAD = 15;
    private static final int LONG_HEAD = 35;
    private static final int SIZE_BITS = 4;
    private static final int BYTE_BITS = 8;
    private static final int CHECK_BITS = 15;
    private static final int CHECK_TAPS = 0x4599;
    private static final int MOST_ALIKE = 5;
    private static final int TAIL_BITS = 10;
    private static final int TAIL_ANSWER = 1;
    private static final int TAIL_END = 2;

    private static final int REST = 0;
    private static final int BUSY = 1;
    private static final int BROKEN = 2;
    private static final int PAUSE = 3;
    private static final int BROKEN_STEPS = 14;
    private static final int BROKEN_LOW_STEPS = 6;
    private static final int PAUSE_STEPS = 3;

    private static final int OFF = 0;
    private static final int NEITHER = 1;
    private static final int READER = 2;
    private static final int SENDER = 3;
    private static final int SENDING_FAULT = 8;
    private static final int MOST_COUNTED = 255;

    private static final int FAULT_STUFFING = 1;
    private static final int FAULT_CHECK = 2;
    private static final int FAULT_FORM = 3;
    private static final int FAULT_OTHER_BIT = 4;
    private static final int FAULT_NO_ANSWER = 5;

    private static final int READ_FAULT = 1000;
    private static final int READ_TOO_EARLY = 4000;
    private static final int READ_BEHIND = 5000;

    private final Node[] nodes = new Node[NODES];
    private int state = REST;
    /** How many steps the wire is still broken, or in the pause. */
    private int stepsLeft = 0;

    private final int[] tapeBits = new int[TAPE_ROOM];
    private int tapeLength = 0;
    private final Line tapeLine = new Line();
    private final Reader tapeReader = new Reader();

    public SharedWire() {
        for (int i = 0; i < NODES; i++) {
            nodes[i] = new Node();
        }
    }

    public int want(int node, boolean isLong, int identifier, long data, int n)
            throws IndexOutOfBoundsException, IllegalArgumentException, UnsupportedOperationException {
        if (!isNode(node)) {
            throw new IndexOutOfBoundsException();
        }
        int bits = isLong ? LONG_BITS : SHORT_BITS;
        if (identifier < 0 || identifier >= 1 << bits || n < 0 || n > MOST_BYTES) {
            throw new IllegalArgumentException();
        }
        Node who = nodes[node];
        if (who.wants >= MOST_WANTED) {
            throw new UnsupportedOperationException();
        }
        who.addWanted(isLong, identifier, data, n);
        return who.wants;
    }

    public int step(int steps, int disturbed) throws IllegalArgumentException {
        if (steps < 1 || steps > MOST_STEPS || disturbed < 0 || disturbed > ALL_DISTURBED) {
            throw new IllegalArgumentException();
        }
        int level = oneStep(disturbed);
        for (int i = 1; i < steps; i++) {
            level = oneStep(0);
        }
        return level;
    }

    public boolean join(int node) throws IndexOutOfBoundsException {
        if (!isNode(node)) {
            throw new IndexOutOfBoundsException();
        }
        Node who = nodes[node];
        if (who.on) {
            return false;
        }
        who.switchOn();
        return true;
    }

    public int wire() {
        return state;
    }

    public int node(int node, int what) throws IndexOutOfBoundsException {
        if (!isNode(node)) {
            throw new IndexOutOfBoundsException();
        }
        Node who = nodes[node];
        switch (what) {
            case 0: return who.on ? who.role : OFF;
            case 1: return who.sendingCount;
            case 2: return who.receivingCount;
            case 3: return who.wants;
            case 4: return who.framesSent;
            case 5: return who.framesReceived;
            case 6: return who.lastFault;
            default: throw new IndexOutOfBoundsException();
        }
    }

    public long received(int node, int what) throws IndexOutOfBoundsException, NoSuchElementException {
        if (!isNode(node) || what < 0 || what > 3) {
            throw new IndexOutOfBoundsException();
        }
        Node who = nodes[node];
        if (who.framesReceived == 0) {
            throw new NoSuchElementException();
        }
        Frame frame = who.lastReceived;
        switch (what) {
            case 0: return frame.identifier;
            case 1: return frame.isLong ? 1 : 0;
            case 2: return frame.size;
            default: return frame.data;
        }
    }

    public int tape(int node) throws IndexOutOfBoundsException, NoSuchElementException {
        if (!isNode(node)) {
            throw new IndexOutOfBoundsException();
        }
        Node who = nodes[node];
        int offered = who.offered();
        if (offered == NONE) {
            throw new NoSuchElementException();
        }
        tapeLine.write(who.wanted[offered]);
        tapeLength = tapeLine.length;
        for (int i = 0; i < tapeLength; i++) {
            tapeBits[i] = tapeLine.bitAt(i);
        }
        return tapeLength;
    }

    public boolean put(long w, int n) {
        if (n < 1 || n > WORD_BITS || n > TAPE_ROOM - tapeLength) {
            return false;
        }
        for (int i = 0; i < n; i++) {
            tapeBits[tapeLength] = (int) (w >>> i & 1);
            tapeLength++;
        }
        return true;
    }

    public int bit(int i) throws IndexOutOfBoundsException {
        if (!isOnTape(i)) {
            throw new IndexOutOfBoundsException();
        }
        return tapeBits[i];
    }

    public void flip(int i) throws IndexOutOfBoundsException {
        if (!isOnTape(i)) {
            throw new IndexOutOfBoundsException();
        }
        tapeBits[i] = 1 - tapeBits[i];
    }

    public int wipe() {
        int had = tapeLength;
        tapeLength = 0;
        return had;
    }

    public int read() {
        tapeReader.begin();
        for (int i = 0; i < tapeLength; i++) {
            if (tapeReader.isFinished()) {
                return READ_BEHIND + i;
            }
            int fault = tapeReader.take(tapeBits[i]);
            if (fault != 0) {
                return READ_FAULT * fault + i;
            }
        }
        return tapeReader.isFinished() ? 0 : READ_TOO_EARLY + tapeLength;
    }

    private static boolean isNode(int node) {
        return node >= 0 && node < NODES;
    }

    private boolean isOnTape(int i) {
        return i >= 0 && i < tapeLength;
    }

    private int oneStep(int disturbed) {
        if (state == BROKEN) {
            return brokenStep();
        }
        if (state == PAUSE) {
            return pauseStep();
        }
        if (state == REST) {
            startSenders();
        }
        int level = levelSent();
        if (someFindFaults(level, disturbed)) {
            breakOff();
        } else {
            goOn();
        }
        return level;
    }

    private int brokenStep() {
        int level = stepsLeft > BROKEN_STEPS - BROKEN_LOW_STEPS ? 0 : 1;
        stepsLeft--;
        if (stepsLeft == 0) {
            beginPause();
        }
        return level;
    }

    private int pauseStep() {
        stepsLeft--;
        if (stepsLeft == 0) {
            state = REST;
        }
        return 1;
    }

    private void beginPause() {
        state = PAUSE;
        stepsLeft = PAUSE_STEPS;
    }

    private void startSenders() {
        for (int i = 0; i < NODES; i++) {
            nodes[i].startSending();
        }
    }

    private int levelSent() {
        int level = 1;
        for (int i = 0; i < NODES; i++) {
            level &= nodes[i].bitToSend();
        }
        return level;
    }

    private boolean someFindFaults(int level, int disturbed) {
        boolean some = false;
        for (int i = 0; i < NODES; i++) {
            nodes[i].look(level ^ (disturbed >> i & 1));
            if (nodes[i].found != 0) {
                some = true;
            }
        }
        return some;
    }

    private void breakOff() {
        for (int i = 0; i < NODES; i++) {
            nodes[i].countFault();
        }
        state = BROKEN;
        stepsLeft = BROKEN_STEPS;
    }

    private void goOn() {
        boolean some = false;
        for (int i = 0; i < NODES; i++) {
            nodes[i].endFrame();
            if (nodes[i].role != NEITHER) {
                some = true;
            }
        }
        if (some) {
            state = BUSY;
        } else if (state == BUSY) {
            beginPause();
        }
    }

    private static int nextCheck(int check, int bit) {
        int moved = check << 1 & (1 << CHECK_BITS) - 1;
        boolean differs = (check >> CHECK_BITS - 1 & 1) != bit;
        return differs ? moved ^ CHECK_TAPS : moved;
    }

    private static final class Frame {
        boolean isLong = false;
        int identifier = 0;
        long data = 0;
        int size = 0;

        void set(boolean newIsLong, int newIdentifier, long newData, int newSize) {
            isLong = newIsLong;
            identifier = newIdentifier;
            data = newData;
            size = newSize;
        }

        /** The 11 highest bits, then short before long, then the other bits: as one number. */
        int rank() {
            if (!isLong) {
                return identifier << LOW_BITS + 1;
            }
            int low = identifier & (1 << LOW_BITS) - 1;
            return identifier >> LOW_BITS << LOW_BITS + 1 | 1 << LOW_BITS | low;
        }
    }

    /** The bits on the wire of one frame. */
    private static final class Line {
        final int[] bits = new int[LINE_ROOM];
        /** Of each bit: which one of the frame it is, or NONE for one stuffed in. */
        final int[] places = new int[LINE_ROOM];
        int length = 0;
        private int head = 0;
        private int framed = 0;
        private int alike = 0;
        private int last = NONE;
        private int check = 0;

        void write(Frame frame) {
            clear();
            addNumber(0, 1);
            if (frame.isLong) {
                addNumber(frame.identifier >> LOW_BITS, SHORT_BITS);
                addNumber(3, 2);
                addNumber(frame.identifier, LOW_BITS);
            } else {
                addNumber(frame.identifier, SHORT_BITS);
            }
            addNumber(0, 3);
            head = framed;
            addNumber(frame.size, SIZE_BITS);
            for (int i = 0; i < frame.size; i++) {
                addNumber((int) (frame.data >>> BYTE_BITS * i & 255), BYTE_BITS);
            }
            addNumber(check, CHECK_BITS);
            for (int i = 0; i < TAIL_BITS; i++) {
                append(1, framed);
            }
        }

        int bitAt(int i) {
            return i >= 0 && i < length ? bits[i] : 1;
        }

        boolean isAnswer(int i) {
            return i == length - TAIL_BITS + TAIL_ANSWER;
        }

        /** Whether a sender that sees 0 instead of bit i has only lost to another one. */
        boolean mayLose(int i) {
            if (i < 0 || i >= length || bits[i] == 0 || places[i] == NONE) {
                return false;
            }
            return head - 1 - places[i] > 2;
        }

        private void clear() {
            length = 0;
            framed = 0;
            alike = 0;
            last = NONE;
            check = 0;
        }

        // Stuffing waits for the next bit of the frame, so none comes behind the last one.
        private void addNumber(int number, int count) {
            for (int i = count - 1; i >= 0; i--) {
                int bit = number >> i & 1;
                if (alike == MOST_ALIKE) {
                    append(1 - last, NONE);
                }
                append(bit, framed);
                framed++;
                check = nextCheck(check, bit);
            }
        }

        private void append(int bit, int place) {
            if (length >= LINE_ROOM) {
                return;
            }
            bits[length] = bit;
            places[length] = place;
            length++;
            alike = bit == last ? alike + 1 : 1;
            last = bit;
        }
    }

    /** Takes bits one after the other, as they come, and makes a frame of them. */
    private static final class Reader {
        final Frame frame = new Frame();
        private int taken = 0;
        private int tail = 0;
        private int alike = 0;
        private int last = NONE;
        private int check = 0;
        private int checkTaken = 0;
        /** Where the number of bytes, and the check, begin, as far as it can be known yet. */
        private int sizePlace = SHORT_HEAD;
        private int checkPlace = SHORT_HEAD + SIZE_BITS;

        void begin() {
            frame.set(false, 0, 0, 0);
            taken = 0;
            tail = 0;
            alike = 0;
            last = NONE;
            check = 0;
            checkTaken = 0;
            sizePlace = SHORT_HEAD;
            checkPlace = SHORT_HEAD + SIZE_BITS;
        }

        /** The fault that this bit is, or 0. */
        int take(int bit) {
            if (taken == 0 && bit != 0) {
                return FAULT_FORM;
            }
            if (hasWholeFrame()) {
                return takeTail(bit);
            }
            boolean isStuffed = alike == MOST_ALIKE;
            if (isStuffed && bit == last) {
                return FAULT_STUFFING;
            }
            alike = bit == last ? alike + 1 : 1;
            last = bit;
            if (!isStuffed) {
                takeFramed(bit);
            }
            return 0;
        }

        boolean isFinished() {
            return tail == TAIL_BITS;
        }

        boolean givesAnswer() {
            return hasWholeFrame() && tail == TAIL_ANSWER && check == checkTaken;
        }

        private boolean hasWholeFrame() {
            return taken == checkPlace + CHECK_BITS;
        }

        private int takeTail(int bit) {
            if (tail == TAIL_END && check != checkTaken) {
                return FAULT_CHECK;
            }
            if (tail != TAIL_ANSWER && bit != 1) {
                return FAULT_FORM;
            }
            tail++;
            return 0;
        }

        private void takeFramed(int bit) {
            int place = taken;
            taken++;
            if (place >= checkPlace) {
                checkTaken = checkTaken << 1 | bit;
                return;
            }
            check = nextCheck(check, bit);
            if (place < sizePlace) {
                takeHead(place, bit);
            } else if (place < sizePlace + SIZE_BITS) {
                takeSize(place, bit);
            } else {
                takeData(place - sizePlace - SIZE_BITS, bit);
            }
        }

        private void takeHead(int place, int bit) {
            boolean isHigh = place >= 1 && place <= SHORT_BITS;
            boolean isLow = place > LONG_MARK && place <= LONG_MARK + LOW_BITS;
            if (isHigh || frame.isLong && isLow) {
                frame.identifier = frame.identifier << 1 | bit;
            } else if (place == LONG_MARK && bit == 1) {
                frame.isLong = true;
                sizePlace = LONG_HEAD;
                checkPlace = LONG_HEAD + SIZE_BITS;
            }
        }

        private void takeSize(int place, int bit) {
            frame.size = frame.size << 1 | bit;
            if (place == sizePlace + SIZE_BITS - 1) {
                frame.size = Math.min(frame.size, MOST_BYTES);
                checkPlace = sizePlace + SIZE_BITS + BYTE_BITS * frame.size;
            }
        }

        // The lowest byte comes first, but of each byte the highest bit.
        private void takeData(int i, int bit) {
            int lowest = i / BYTE_BITS * BYTE_BITS;
            int shift = lowest + BYTE_BITS - 1 - i % BYTE_BITS;
            frame.data |= (long) bit << shift;
        }
    }

    private static final class Node {
        /** The wanted frames stand in the order in which they came. */
        final Frame[] wanted = new Frame[MOST_WANTED];
        final Frame lastReceived = new Frame();
        private final Line line = new Line();
        private final Reader reader = new Reader();
        boolean on = true;
        int role = NEITHER;
        int wants = 0;
        int sendingCount = 0;
        int receivingCount = 0;
        int framesSent = 0;
        int framesReceived = 0;
        int lastFault = 0;
        /** The fault found in this step, or 0. */
        int found = 0;
        private int sending = 0;
        private int next = 0;

        Node() {
            for (int i = 0; i < MOST_WANTED; i++) {
                wanted[i] = new Frame();
            }
        }

        void addWanted(boolean isLong, int identifier, long data, int size) {
            if (wants < MOST_WANTED) {
                wanted[wants].set(isLong, identifier, data, size);
                wants++;
            }
        }

        /** Which of the wanted frames is the first in order, or NONE. */
        int offered() {
            int first = NONE;
            for (int i = 0; i < wants; i++) {
                if (first == NONE || wanted[i].rank() < wanted[first].rank()) {
                    first = i;
                }
            }
            return first;
        }

        void switchOn() {
            on = true;
            sendingCount = 0;
            receivingCount = 0;
        }

        void startSending() {
            int first = offered();
            if (!on || first == NONE) {
                return;
            }
            role = SENDER;
            sending = first;
            next = 0;
            line.write(wanted[first]);
            reader.begin();
        }

        int bitToSend() {
            if (role == SENDER) {
                return line.bitAt(next);
            }
            return role == READER && reader.givesAnswer() ? 0 : 1;
        }

        // A sender's reader takes the bits too, so that it can go on at once if the sender loses.
        void look(int seen) {
            found = 0;
            if (!on || role == NEITHER && seen == 1) {
                return;
            }
            if (role == NEITHER) {
                role = READER;
                reader.begin();
            } else if (role == SENDER) {
                lookAsSender(seen);
            }
            int fault = reader.take(seen);
            if (role == READER) {
                found = fault;
            }
        }

        void countFault() {
            if (found != 0) {
                lastFault = found;
                if (role == SENDER) {
                    sendingCount += SENDING_FAULT;
                } else {
                    receivingCount++;
                }
            }
            if (sendingCount > MOST_COUNTED) {
                on = false;
            }
            role = NEITHER;
        }

        void endFrame() {
            if (role == SENDER && next >= line.length) {
                endSending();
            } else if (role == READER && reader.isFinished()) {
                endReading();
            }
        }

        private void lookAsSender(int seen) {
            boolean isAnswer = line.isAnswer(next);
            if (isAnswer && seen == 1) {
                found = FAULT_NO_ANSWER;
            } else if (isAnswer || seen == line.bitAt(next)) {
                next++;
            } else if (line.mayLose(next)) {
                role = READER;
            } else {
                found = FAULT_OTHER_BIT;
            }
        }

        private void endSending() {
            role = NEITHER;
            framesSent++;
            sendingCount = Math.max(sendingCount - 1, 0);
            removeWanted(sending);
        }

        private void endReading() {
            role = NEITHER;
            framesReceived++;
            receivingCount = Math.max(receivingCount - 1, 0);
            Frame frame = reader.frame;
            lastReceived.set(frame.isLong, frame.identifier, frame.data, frame.size);
        }

        // The frame taken out moves to the end, so that its object is used again.
        private void removeWanted(int which) {
            if (which < 0 || which >= wants) {
                return;
            }
            Frame out = wanted[which];
            for (int i = which + 1; i < wants; i++) {
                wanted[i - 1] = wanted[i];
            }
            wants--;
            wanted[wants] = out;
        }
    }
}
