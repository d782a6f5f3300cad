/** Promise 11: flip. */
public final class Promise11FlipTest {
    public static void main(String[] args) {
        bitsAre0ToTheLast();
        noneOfAnEmptyTape();
        thatBitAlone();
        twiceIsAsBefore();
        nothingElseIsChanged();
        Due.end();
    }

    private static SharedWire having(int bits) {
        SharedWire x = new SharedWire();
        Due.putText(x, "10".repeat(100).substring(0, bits));
        return x;
    }

    private static long flipped(SharedWire x, int i) {
        x.flip(i);
        return i;
    }

    private static void bitsAre0ToTheLast() {
        Due.sentence("Promise 11: IndexOutOfBoundsException: there is no such bit");
        for (int had : new int[] {1, 2, 64, 199, 200}) {
            SharedWire x = having(had);
            String due = Due.tapeOf(x);
            x.flip(0);
            x.flip(had - 1);
            due = Lines.flipped(Lines.flipped(due, 0), had - 1);
            Due.is("the first and the last of " + had, Due.tapeOf(x), due);
            for (int i : new int[] {-1, had, had + 1, 200, Integer.MIN_VALUE, Integer.MAX_VALUE}) {
                Twins.refused("flip(" + i + ") of " + had, IndexOutOfBoundsException.class, () -> having(had),
                    y -> flipped(y, i));
            }
        }
    }

    private static void noneOfAnEmptyTape() {
        Due.sentence("Promise 11: IndexOutOfBoundsException: there is no such bit of an empty tape");
        for (int i : new int[] {-1, 0, 1, 199, 200}) {
            Twins.refused("flip(" + i + ")", IndexOutOfBoundsException.class, SharedWire::new, x -> flipped(x, i));
        }
        SharedWire x = having(200);
        x.wipe();
        Due.isThrown("flip(0) of a wiped tape", IndexOutOfBoundsException.class, () -> flipped(x, 0));
        Due.isThrown("flip(199) of a wiped tape", IndexOutOfBoundsException.class, () -> flipped(x, 199));
        x.put(0, 1);
        Due.isThrown("flip(1) of one bit", IndexOutOfBoundsException.class, () -> flipped(x, 1));
        x.put(0, 1);
        Due.is("it changed nothing that comes later", Due.tapeOf(x), "00");
    }

    private static void thatBitAlone() {
        Due.sentence("Promise 11: bit i of the tape becomes the other one");
        for (int i = 0; i < Lines.FIVE.length(); i++) {
            SharedWire x = Lines.sendingFive(0);
            x.tape(0);
            x.flip(i);
            Due.is("flip(" + i + ")", Due.tapeOf(x), Lines.flipped(Lines.FIVE, i));
        }
    }

    private static void twiceIsAsBefore() {
        Due.sentence("Promise 11: the other one, so that twice is as before");
        for (int i : new int[] {0, 1, 198, 199}) {
            SharedWire x = having(200);
            int bit = x.bit(i);
            x.flip(i);
            Due.is("once", x.bit(i), 1 - bit);
            x.flip(i);
            Due.is("twice", x.bit(i), bit);
        }
    }

    private static void nothingElseIsChanged() {
        Due.sentence("Promise 11: bit i of the tape: what is wanted and sent is left");
        SharedWire x = Lines.sendingFive(0);
        x.tape(0);
        x.flip(10);
        Due.is("the levels", Due.levels(x, 55), Lines.answered(Lines.FIVE));
        x.want(0, false, 5, 0xA5, 1);
        x.tape(0);
        Due.is("the tape anew", Due.tapeOf(x), Lines.FIVE);
    }
}
