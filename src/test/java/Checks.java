import java.util.NoSuchElementException;
import java.util.function.IntToLongFunction;
import java.util.function.Supplier;
import java.util.function.ToLongFunction;

/** Counts the checks of one test, and prints those that fail. */
final class Checks {
    static final int FAILED = TrolleyPlanner.FAILED;

    private final String test;
    private int wrong;
    private int done;

    Checks(String test) {
        this.test = test;
    }

    int wrong() {
        return wrong;
    }

    int done() {
        return done;
    }

    void due(String what, long got, long want) {
        done++;
        if (got != want) {
            wrong++;
            System.out.println(test + ": " + what + " answered " + got + ", due is " + want);
        }
    }

    void same(String what, String got, String want) {
        done++;
        if (!got.equals(want)) {
            wrong++;
            System.out.println(test + ": " + what + " left\n    " + got + "\n  due is\n    " + want);
        }
    }

    /** A call that fails answers FAILED and leaves its error code. */
    void refused(String what, TrolleyPlanner planner, long got, int code) {
        due(what, got, FAILED);
        due(what + ", its error code", planner.error(), code);
    }

    void refusedLong(String what, TrolleyPlanner planner, long got, int code) {
        due(what, got, TrolleyPlanner.FAILED_LONG);
        due(what + ", its error code", planner.error(), code);
    }

    /** A call that succeeds answers and leaves the error code 0. */
    void answered(String what, TrolleyPlanner planner, long got, long want) {
        due(what, got, want);
        due(what + ", its error code", planner.error(), 0);
    }

    void notServed(TrolleyPlanner planner, int i) {
        int thrown = 0;
        try {
            planner.served(i);
        } catch (NoSuchElementException e) {
            thrown = e.getClass() == NoSuchElementException.class ? 1 : 0;
        }
        due("served(" + i + ") throws", thrown, 1);
    }

    /** Of the indices 0 to count - 1 the first and the last are taken, those around them and far from them are not. */
    void indices(String what, TrolleyPlanner planner, int count, long failed, IntToLongFunction call) {
        int[] wrongOnes = {-1, count, count + 1, 1 << 16, 1 << 30, -(1 << 30), Integer.MAX_VALUE, Integer.MIN_VALUE};
        for (int index : wrongOnes) {
            due(what + " " + index, call.applyAsLong(index), failed);
            due(what + " " + index + ", its error code", planner.error(), 1);
        }
        if (count > 0) {
            due(what + " 0 fails", call.applyAsLong(0) == failed ? 1 : 0, 0);
            due(what + " 0, its error code", planner.error(), 0);
            due(what + " " + (count - 1) + " fails", call.applyAsLong(count - 1) == failed ? 1 : 0, 0);
            due(what + " " + (count - 1) + ", its error code", planner.error(), 0);
        }
    }

    void indices(String what, TrolleyPlanner planner, int count, IntToLongFunction call) {
        indices(what, planner, count, FAILED, call);
    }

    /** Of the numbers low to high the ends are taken, and the numbers around them and at the ends of int are error 2. */
    void numbers(String what, TrolleyPlanner planner, int low, int high, IntToLongFunction call) {
        for (int number : new int[] {low - 1, high + 1, Integer.MIN_VALUE, Integer.MAX_VALUE, -1 - high, high + (1 << 16)}) {
            refused(what + " " + number, planner, call.applyAsLong(number), 2);
        }
        for (int number : new int[] {low, high}) {
            due(what + " " + number + " fails", call.applyAsLong(number) == FAILED ? 1 : 0, 0);
            due(what + " " + number + ", its error code", planner.error(), 0);
        }
    }

    /** The call fails with that code, and after it all that can be asked is as without it. */
    void refusedAndUnchanged(String what, Supplier<TrolleyPlanner> make, ToLongFunction<TrolleyPlanner> call, long failed,
        int code) {
        TrolleyPlanner touched = make.get();
        due(what, call.applyAsLong(touched), failed);
        due(what + ", its error code", touched.error(), code);
        same(what, Whole.of(touched), Whole.of(make.get()));
    }

    /** Loads a text, and checks that it is refused with that code at that position. */
    void badText(String text, int code, int position) {
        TrolleyPlanner planner = new TrolleyPlanner();
        refused("load of " + text, planner, Texts.load(planner, text), 4);
        due("parseError of " + text, planner.parseError(), code);
        due("errorPosition of " + text, planner.errorPosition(), position);
    }

    void goodText(String text, int jobs) {
        TrolleyPlanner planner = new TrolleyPlanner();
        answered("load of " + text, planner, Texts.load(planner, text), jobs);
        due("parseError of " + text, planner.parseError(), 0);
        due("errorPosition of " + text, planner.errorPosition(), -1);
    }

    void end() {
        System.out.println(test + ": " + done + " checks, " + wrong + " wrong");
        if (wrong != 0) {
            System.exit(1);
        }
    }
}
