/** Objects in each kind of state, made anew at each asking: a refused call must change nothing in any. */
enum Moment {
    NEW, WANTING, BEGUN, SENDING, ANSWER_NEXT, LAST_BIT_NEXT, READING_ALONE,
    JUST_BROKEN, LAST_OF_BROKEN, PAUSE, LAST_OF_PAUSE, RECEIVED, NODE_0_OFF;

    SharedWire make() {
        switch (this) {
            case NEW: return new SharedWire();
            case WANTING: return wanting();
            case BEGUN: return Lines.sendingFive(1);
            case SENDING: return wantingSince(Lines.sendingFive(20));
            case ANSWER_NEXT: return Lines.sendingFive(Lines.FIVE_ANSWER);
            case LAST_BIT_NEXT: return wantingSince(Lines.sendingFive(54));
            case READING_ALONE: return stepped(new SharedWire(), 2, 4);
            case JUST_BROKEN: return stepped(Lines.sendingFive(3), 1, 1);
            case LAST_OF_BROKEN: return stepped(Lines.sendingFive(3), 14, 1);
            case PAUSE: return wantingSince(Lines.sendingFive(55));
            case LAST_OF_PAUSE: return Lines.sendingFive(57);
            case RECEIVED: return wantingSince(Lines.sendingFive(100));
            default: return Lines.withOff(1);
        }
    }

    private static SharedWire stepped(SharedWire x, int steps, int disturbed) {
        x.step(steps, disturbed);
        return x;
    }

    private static SharedWire wantingSince(SharedWire x) {
        x.want(0, false, 4, 0x1234, 2);
        x.want(1, true, 4 << 18, -1, 1);
        x.tape(1);
        return x;
    }

    private static SharedWire wanting() {
        SharedWire x = Lines.sendingFive(0);
        x.want(0, true, 5 << 18, 0, 0);
        x.want(0, false, 5, 0x5A, 1);
        x.want(0, false, 6, 0, 0);
        x.want(3, false, 5, 0xA5, 1);
        x.put(5, 3);
        return x;
    }
}
