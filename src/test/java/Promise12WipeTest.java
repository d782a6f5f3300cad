/** Promise 12: wipe. */
public final class Promise12WipeTest {
    public static void main(String[] args) {
        howManyItHad();
        theTapeIsEmpty();
        thereIsRoomFor200Again();
        nothingElseIsChanged();
        Due.end();
    }

    private static void howManyItHad() {
        Due.sentence("Promise 12: how many bits it had");
        for (int had : new int[] {0, 1, 2, 63, 64, 65, 199, 200}) {
            SharedWire x = new SharedWire();
            Due.putText(x, "1".repeat(had));
            Due.is("wipe() of " + had, x.wipe(), had);
            Due.is("wipe() again", x.wipe(), 0);
        }
        SharedWire x = Lines.sendingFive(0);
        x.tape(0);
        Due.is("wipe() of a frame", x.wipe(), 55);
        SharedWire refused = new SharedWire();
        Due.putText(refused, "1".repeat(200));
        refused.put(1, 1);
        Due.is("wipe() behind a refused put", refused.wipe(), 200);
    }

    private static void theTapeIsEmpty() {
        Due.sentence("Promise 12: the tape is empty");
        SharedWire x = Lines.sendingFive(0);
        x.tape(0);
        x.wipe();
        Due.isThrown("bit(0)", IndexOutOfBoundsException.class, () -> x.bit(0));
        Due.isThrown("flip(0)", IndexOutOfBoundsException.class, () -> {
            x.flip(0);
            return 0;
        });
        Due.is("read()", x.read(), 4000);
        x.put(0, 2);
        Due.is("what was there is gone", Due.tapeOf(x), "00");
    }

    private static void thereIsRoomFor200Again() {
        Due.sentence("Promise 12: the tape is empty: there is room for 200 again");
        SharedWire x = new SharedWire();
        for (int i = 0; i < 3; i++) {
            Due.putText(x, "1".repeat(200));
            Due.is("no more than 200", Due.number(x.put(1, 1)), 0);
            Due.is("wipe() of 200", x.wipe(), 200);
        }
    }

    private static void nothingElseIsChanged() {
        Due.sentence("Promise 12: the tape is empty: the wire and the nodes are left");
        Twins.changesTheTapeAlone("wipe()", SharedWire::wipe);
    }
}
