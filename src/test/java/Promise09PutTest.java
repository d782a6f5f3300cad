/** Promise 9: put. */
public final class Promise09PutTest {
    public static void main(String[] args) {
        nIs1To64();
        atMost200();
        anyWayTo200();
        behindATape();
        behindAWipe();
        theLowestFirst();
        othersAreNotLookedAt();
        nothingElseIsChanged();
        Due.end();
    }

    private static SharedWire having(int bits) {
        SharedWire x = new SharedWire();
        Due.putText(x, "01".repeat(100).substring(0, bits));
        return x;
    }

    private static void takes(int had, int n) {
        SharedWire x = having(had);
        String before = Due.tapeOf(x);
        Due.is("put of " + n + " behind " + had, Due.number(x.put(-1, n)), 1);
        Due.is("the tape behind it", Due.tapeOf(x), before + "1".repeat(n));
        Due.is("wipe() behind it", x.wipe(), had + n);
    }

    private static void refuses(int had, int n) {
        Twins.changesNothing("put of " + n + " behind " + had, "0", () -> having(had), x -> Due.number(x.put(-1, n)));
    }

    private static void nIs1To64() {
        Due.sentence("Promise 9: false, changing nothing, when n is not 1 .. 64");
        for (int n : new int[] {1, 2, 31, 32, 33, 63, 64}) {
            takes(0, n);
            takes(7, n);
        }
        for (int n : new int[] {0, -1, 65, 100, 200, Integer.MIN_VALUE, Integer.MAX_VALUE}) {
            refuses(0, n);
            refuses(7, n);
            Twins.answersAlways("put of " + n, 0, x -> Due.number(x.put(-1, n)));
        }
    }

    private static void atMost200() {
        Due.sentence("Promise 9: false, changing nothing, when there would be more than 200");
        takes(136, 64);
        refuses(137, 64);
        takes(199, 1);
        refuses(199, 2);
        refuses(200, 1);
        refuses(200, 64);
        takes(193, 7);
        refuses(193, 8);
    }

    private static void anyWayTo200() {
        Due.sentence("Terms: the tape is a row of at most 200 bits");
        for (int n = 1; n <= 64; n++) {
            SharedWire x = new SharedWire();
            int taken = 0;
            for (int i = 0; i < 201; i++) {
                taken += x.put(0, n) ? n : 0;
            }
            Due.is("of " + n + " each", taken, 200 / n * n);
            Due.is("of " + n + " each, wipe()", x.wipe(), taken);
        }
    }

    private static void behindATape() {
        Due.sentence("Promise 9: n bits come behind the tape");
        SharedWire x = Lines.sendingFive(0);
        x.tape(0);
        Due.is("55 and 146", Due.number(x.put(0, 64)) * 10 + Due.number(x.put(0, 64)), 11);
        Due.is("55 and 128 and 18", Due.number(x.put(0, 18)), 0);
        Due.is("55 and 128 and 17", Due.number(x.put(-1, 17)), 1);
        Due.is("200 bits", Due.tapeOf(x), Lines.FIVE + "0".repeat(128) + "1".repeat(17));
    }

    private static void behindAWipe() {
        Due.sentence("Promise 9: n bits come behind the tape, one that was wiped too");
        SharedWire x = having(200);
        x.wipe();
        Due.is("put of 64", Due.number(x.put(-1, 64)), 1);
        Due.is("the tape", Due.tapeOf(x), "1".repeat(64));
    }

    private static void theLowestFirst() {
        Due.sentence("Promise 9: the lowest of w first");
        for (int bit = 0; bit < 64; bit++) {
            SharedWire x = new SharedWire();
            Due.is("put of 64", Due.number(x.put(1L << bit, 64)), 1);
            Due.is("bit " + bit + " of w", Due.tapeOf(x), "0".repeat(bit) + "1" + "0".repeat(63 - bit));
        }
        SharedWire x = new SharedWire();
        x.put(6, 4);
        x.put(1, 2);
        Due.is("put(6, 4), put(1, 2)", Due.tapeOf(x), "0110" + "10");
    }

    private static void othersAreNotLookedAt() {
        Due.sentence("Promise 9: others are not looked at");
        for (int n = 1; n < 64; n++) {
            SharedWire x = new SharedWire();
            x.put(-1L << n, n);
            x.put(~(-1L << n), n);
            Due.is("n " + n, Due.tapeOf(x), "0".repeat(n) + "1".repeat(n));
        }
    }

    private static void nothingElseIsChanged() {
        Due.sentence("Promise 9: n bits come behind the tape: the wire and the nodes are left");
        Twins.changesTheTapeAlone("put(0, 3)", x -> Due.number(x.put(0, 3)));
    }
}
