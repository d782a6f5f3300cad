/** Promise 10: bit. */
public final class Promise10BitTest {
    public static void main(String[] args) {
        bitsAre0ToTheLast();
        noneOfAnEmptyTape();
        noneBehindAShorterTape();
        eachBit();
        Twins.onlyLooks("bit(0)", x -> x.bit(0));
        Due.end();
    }

    private static SharedWire having(int bits) {
        SharedWire x = new SharedWire();
        Due.putText(x, "1".repeat(bits));
        return x;
    }

    private static void bitsAre0ToTheLast() {
        Due.sentence("Promise 10: IndexOutOfBoundsException: there is no such bit");
        for (int had : new int[] {1, 2, 64, 199, 200}) {
            SharedWire x = having(had);
            Due.is("bit(0) of " + had, x.bit(0), 1);
            Due.is("the last bit of " + had, x.bit(had - 1), 1);
            for (int i : new int[] {-1, had, had + 1, 200, Integer.MIN_VALUE, Integer.MAX_VALUE}) {
                Twins.refused("bit(" + i + ") of " + had, IndexOutOfBoundsException.class, () -> having(had),
                    y -> y.bit(i));
            }
        }
    }

    private static void noneOfAnEmptyTape() {
        Due.sentence("Promise 10: IndexOutOfBoundsException: there is no such bit of an empty tape");
        for (int i : new int[] {-1, 0, 1, 199, 200}) {
            Twins.refused("bit(" + i + ")", IndexOutOfBoundsException.class, SharedWire::new, x -> x.bit(i));
        }
        SharedWire wiped = having(200);
        wiped.wipe();
        Due.isThrown("bit(0) of a wiped tape", IndexOutOfBoundsException.class, () -> wiped.bit(0));
        Due.isThrown("bit(199) of a wiped tape", IndexOutOfBoundsException.class, () -> wiped.bit(199));
    }

    private static void noneBehindAShorterTape() {
        Due.sentence("Promise 10: IndexOutOfBoundsException: what a longer tape had is no bit any more");
        SharedWire x = Lines.sendingFive(0);
        Due.putText(x, "0".repeat(200));
        Due.is("bit(55) of 200", x.bit(55), 0);
        x.tape(0);
        Due.is("bit(54) of 55", x.bit(54), 1);
        Due.isThrown("bit(55) of 55", IndexOutOfBoundsException.class, () -> x.bit(55));
    }

    private static void eachBit() {
        Due.sentence("Promise 10: bit i of the tape");
        for (int at : new int[] {0, 1, 63, 64, 127, 128, 198, 199}) {
            SharedWire x = new SharedWire();
            String bits = "0".repeat(at) + "1" + "0".repeat(199 - at);
            Due.putText(x, bits);
            Due.is("a 1 at " + at, Due.tapeOf(x), bits);
        }
    }
}
