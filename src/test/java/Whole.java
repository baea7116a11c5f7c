/** All that can be asked of a small planner, as a text: two planners in the same state tell the same. */
final class Whole {
    private final StringBuilder told = new StringBuilder();
    private final TrolleyPlanner planner;

    private Whole(TrolleyPlanner planner) {
        this.planner = planner;
    }

    /** Uses the planner up, as planOf does, and tells of the input buffer and of the parse errors, too. */
    static String of(TrolleyPlanner planner) {
        Whole whole = new Whole(planner);
        whole.sayInput();
        whole.sayPlans();
        whole.say("load", planner.load(planner.buffered()));
        whole.sayInput();
        return whole.told.toString();
    }

    /** Uses the planner up: all changes are undone, and what is saved is restored. */
    static String planOf(TrolleyPlanner planner) {
        Whole whole = new Whole(planner);
        whole.sayPlans();
        return whole.told.toString();
    }

    private void sayInput() {
        say("parse error", planner.parseError());
        say("at", planner.errorPosition());
        say("buffered", planner.buffered());
    }

    private void sayPlans() {
        sayPlan();
        for (int left = 1; left > 0;) {
            left = planner.undo();
            say("undo", left);
            if (left != TrolleyPlanner.FAILED) {
                sayPlan();
            }
        }
        int restored = planner.restore();
        say("restore", restored);
        if (restored != TrolleyPlanner.FAILED) {
            sayPlan();
        }
    }

    private void say(String what, int number) {
        told.append(what).append(' ').append(number).append(' ');
    }

    private void sayPlan() {
        // Few calls for each job, for an object has only 512: where it goes is seen at the doors.
        int jobs = planner.jobCount();
        say("| jobs", jobs);
        for (int job = 0; job < jobs; job++) {
            say("trolley", planner.jobTrolley(job));
            say("quantity", planner.jobQuantity(job));
            say("unloaded", planner.unloaded(job));
            say("finish", planner.finishTime(job));
        }
        for (int train = 0; train < 2; train++) {
            say("departure", planner.departure(train));
            for (int car = 0; car < planner.carCount(train); car++) {
                say("busy", planner.doorBusy(train, car));
                for (int meal = 0; meal < planner.mealCount(); meal++) {
                    say("delivered", planner.delivered(train, car, meal));
                }
            }
        }
        for (int meal = 0; meal < planner.mealCount(); meal++) {
            say("stock", planner.stock(0, meal));
            say("left", planner.finalStock(0, meal));
        }
        told.append("| ");
    }
}
