import java.util.function.Supplier;
import java.util.function.ToLongFunction;

/**
 * Two objects made alike, one of which gets a call that must change nothing: both must look alike
 * then, and go on alike, so that a change shows which no call tells at once.
 */
final class Twins {
    private static final int STEPS_ON = 60;
    /** As far from what is taken as an int can be. */
    static final int[] FAR = {Integer.MIN_VALUE, Integer.MAX_VALUE};

    private Twins() {
    }

    static void refused(String what, Class<? extends RuntimeException> due, Supplier<SharedWire> made,
            ToLongFunction<SharedWire> call) {
        changesNothing(what, "throws " + due.getName(), made, call);
    }

    static void refusedAlways(String what, Class<? extends RuntimeException> due, ToLongFunction<SharedWire> call) {
        for (Moment moment : Moment.values()) {
            refused(moment + ": " + what, due, moment::make, call);
        }
    }

    static void answersAlways(String what, long due, ToLongFunction<SharedWire> call) {
        for (Moment moment : Moment.values()) {
            changesNothing(moment + ": " + what, "" + due, moment::make, call);
        }
    }

    /** Whatever it answers, it is a call that only looks. */
    static void onlyLooks(String what, ToLongFunction<SharedWire> call) {
        for (Moment moment : Moment.values()) {
            SharedWire same = moment.make();
            changesNothing(moment + ": " + what, Due.answer(() -> call.applyAsLong(same)), moment::make, call);
        }
    }

    static void changesNothing(String what, String due, Supplier<SharedWire> made, ToLongFunction<SharedWire> call) {
        SharedWire tried = made.get();
        SharedWire left = made.get();
        Due.is(what, Due.answer(() -> call.applyAsLong(tried)), due);
        Due.is(what + ": the state behind it", Due.stateOf(tried), Due.stateOf(left));
        goOnAlike(what, tried, left);
    }

    /** A call that changes the tape must leave all else. */
    static void changesTheTapeAlone(String what, ToLongFunction<SharedWire> call) {
        for (Moment moment : Moment.values()) {
            SharedWire tried = moment.make();
            SharedWire left = moment.make();
            Due.answer(() -> call.applyAsLong(tried));
            Due.is(moment + ": " + what + ": the state behind it", Due.wireOf(tried), Due.wireOf(left));
            goOnAlike(moment + ": " + what, tried, left);
        }
    }

    private static void goOnAlike(String what, SharedWire tried, SharedWire left) {
        Due.is(what + ": the levels from there on", Due.levels(tried, STEPS_ON), Due.levels(left, STEPS_ON));
        Due.is(what + ": the state at last", Due.wireOf(tried), Due.wireOf(left));
    }
}
