import java.util.NoSuchElementException;

/** Counts the checks of one test, and prints those that fail. */
final class Checks {
    static final int FAILED = TrolleyPlanner.FAILED;

    private final String test;
    private int wrong;
    private int done;

    Checks(String test) {
        this.test = test;
    }

    void due(String what, long got, long want) {
        done++;
        if (got != want) {
            wrong++;
            System.out.println(test + ": " + what + " answered " + got + ", due is " + want);
        }
    }

    /** A call that fails answers FAILED and leaves its error code. */
    void refused(String what, TrolleyPlanner planner, long got, int code) {
        due(what, got, FAILED);
        due(what + ", its error code", planner.error(), code);
    }

    void refusedLong(String what, TrolleyPlanner planner, long got, int code) {
        due(what, got, TrolleyPlanner.FAILED_LONG);
        due(what + ", its error code", planner.error(), code);
    }

    /** A call that succeeds answers and leaves the error code 0. */
    void answered(String what, TrolleyPlanner planner, long got, long want) {
        due(what, got, want);
        due(what + ", its error code", planner.error(), 0);
    }

    void notServed(TrolleyPlanner planner, int i) {
        int thrown = 0;
        try {
            planner.served(i);
        } catch (NoSuchElementException e) {
            thrown = 1;
        }
        due("served(" + i + ") throws", thrown, 1);
    }

    /** Loads a text, and checks that it is refused with that code at that position. */
    void badText(String text, int code, int position) {
        TrolleyPlanner planner = new TrolleyPlanner();
        refused("load of " + text, planner, Texts.load(planner, text), 4);
        due("parseError of " + text, planner.parseError(), code);
        due("errorPosition of " + text, planner.errorPosition(), position);
    }

    void goodText(String text, int jobs) {
        TrolleyPlanner planner = new TrolleyPlanner();
        answered("load of " + text, planner, Texts.load(planner, text), jobs);
        due("parseError of " + text, planner.parseError(), 0);
        due("errorPosition of " + text, planner.errorPosition(), -1);
    }

    void end() {
        System.out.println(test + ": " + done + " checks, " + wrong + " wrong");
        if (wrong != 0) {
            System.exit(1);
        }
    }
}
