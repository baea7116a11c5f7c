/** Promises 45 to 56: changes, undo, save and restore, the jobs that unload, the error code. */
public final class ChangesTest {
    private static final Checks CHECKS = new Checks("ChangesTest");
    /** The doors stand at the kitchen, so that a job of q meals takes 2 q units. */
    private static final String NEAR = "train 0 from 5 to 20;train 1 from 0 to 10;car 0 0 1 0;car 1 0 1 0;car 1 0 1 0;"
        + "meal a 10 0;meal b 0 0;kitchen 0;stock 0 a 50;stock 0 b 50;trolley 0 9 1 1 1;trolley 0 9 1 1 1";
    private static final String THREE = NEAR + ";job 0 0 0 a 1;job 1 1 1 b 2;job 0 1 0 a 3";

    public static void main(String[] args) {
        withoutAPlan();
        addingJobs();
        addingWrongJobs();
        addingWithoutRoom();
        removing();
        moving();
        departures();
        stocks();
        quantities();
        applyingTheBest();
        applyingTheBestAmongOthers();
        undoing();
        tenChanges();
        failedCallsAreNoChanges();
        savingAndRestoring();
        servedJobs();
        errorCodes();
        CHECKS.end();
    }

    private static void withoutAPlan() {
        TrolleyPlanner p = new TrolleyPlanner();
        CHECKS.refused("addJob", p, p.addJob(0, 0, 0, 0, 0), 1);
        CHECKS.refused("removeJob(0)", p, p.removeJob(0), 1);
        CHECKS.refused("moveJob(0, 0)", p, p.moveJob(0, 0), 1);
        CHECKS.refused("setDeparture(0, -1)", p, p.setDeparture(0, -1), 1);
        CHECKS.refused("setStock(0, 0, -1)", p, p.setStock(0, 0, -1), 1);
        CHECKS.refused("setQuantity(0, 0)", p, p.setQuantity(0, 0), 1);
        CHECKS.refused("applyBest(0)", p, p.applyBest(0), 1);
        CHECKS.refused("undo()", p, p.undo(), 1);
        CHECKS.refused("save()", p, p.save(), 1);
        CHECKS.refused("restore()", p, p.restore(), 1);
        CHECKS.notServed(p, 0);
    }

    private static void jobs(TrolleyPlanner p, int... trolleysAndQuantities) {
        CHECKS.answered("jobCount()", p, p.jobCount(), trolleysAndQuantities.length);
        for (int job = 0; job < trolleysAndQuantities.length; job++) {
            CHECKS.answered("jobTrolley(" + job + ")", p, p.jobTrolley(job), trolleysAndQuantities[job] / 100);
            CHECKS.answered("jobQuantity(" + job + ")", p, p.jobQuantity(job), trolleysAndQuantities[job] % 100);
        }
    }

    private static void addingJobs() {
        TrolleyPlanner p = Texts.plan(NEAR);
        CHECKS.answered("addJob", p, p.addJob(1, 1, 1, 1, 99), 1);
        CHECKS.answered("addJob", p, p.addJob(0, 0, 0, 0, 1), 2);
        jobs(p, 199, 1);
        CHECKS.answered("delivered(1, 1, 1)", p, p.delivered(1, 1, 1), 1);
        CHECKS.answered("delivered(0, 0, 0)", p, p.delivered(0, 0, 0), 1);
        CHECKS.answered("undo()", p, p.undo(), 1);
        jobs(p, 199);
        CHECKS.answered("delivered(0, 0, 0)", p, p.delivered(0, 0, 0), 0);
    }

    private static void addingWrongJobs() {
        TrolleyPlanner p = Texts.plan(NEAR);
        for (int wrong : new int[] {-1, 2, 20, Integer.MAX_VALUE, Integer.MIN_VALUE}) {
            CHECKS.refused("addJob of trolley " + wrong, p, p.addJob(wrong, 0, 0, 0, 0), 1);
            CHECKS.refused("addJob for train " + wrong, p, p.addJob(0, wrong, 0, 0, 0), 1);
            CHECKS.refused("addJob for car " + wrong, p, p.addJob(0, 1, wrong, 0, 0), 1);
            CHECKS.refused("addJob of meal " + wrong, p, p.addJob(0, 0, 0, wrong, 0), 1);
        }
        CHECKS.refused("addJob for car 1 of train 0", p, p.addJob(0, 0, 1, 0, 1), 1);
        CHECKS.refused("addJob of 0 meals", p, p.addJob(0, 0, 0, 0, 0), 2);
        CHECKS.refused("addJob of 100 meals", p, p.addJob(0, 0, 0, 0, 100), 2);
        CHECKS.answered("jobCount()", p, p.jobCount(), 0);
    }

    private static void addingWithoutRoom() {
        TrolleyPlanner p = Texts.plan(NEAR + ";trolley 0 1 1 1 1");
        for (int job = 0; job < 16; job++) {
            CHECKS.answered("addJob", p, p.addJob(job / 8, 0, 0, 0, 1), job + 1);
        }
        CHECKS.refused("a ninth job of a trolley", p, p.addJob(0, 0, 0, 0, 1), 3);
        CHECKS.refused("a ninth job of a trolley, of 100 meals", p, p.addJob(0, 0, 0, 0, 100), 2);
        for (int job = 16; job < 20; job++) {
            CHECKS.answered("addJob", p, p.addJob(2, 0, 0, 0, 1), job + 1);
        }
        CHECKS.refused("a 21st job", p, p.addJob(2, 0, 0, 0, 1), 3);
        CHECKS.refused("a 21st job, of 0 meals", p, p.addJob(2, 0, 0, 0, 0), 2);
        CHECKS.answered("removeJob(19)", p, p.removeJob(19), 19);
        CHECKS.answered("addJob", p, p.addJob(2, 0, 0, 0, 1), 20);
    }

    private static void removing() {
        TrolleyPlanner p = Texts.plan(THREE);
        CHECKS.refused("removeJob(3)", p, p.removeJob(3), 1);
        CHECKS.refused("removeJob(-1)", p, p.removeJob(-1), 1);
        CHECKS.answered("removeJob(0)", p, p.removeJob(0), 2);
        jobs(p, 102, 3);
        CHECKS.answered("startTime(1)", p, p.startTime(1), 0);
        CHECKS.answered("delivered(1, 0, 0)", p, p.delivered(1, 0, 0), 3);
        CHECKS.answered("delivered(1, 1, 1)", p, p.delivered(1, 1, 1), 2);
        CHECKS.answered("removeJob(1)", p, p.removeJob(1), 1);
        CHECKS.answered("removeJob(0)", p, p.removeJob(0), 0);
        CHECKS.refused("removeJob(0)", p, p.removeJob(0), 1);
        CHECKS.answered("undo()", p, p.undo(), 2);
        CHECKS.answered("undo()", p, p.undo(), 1);
        CHECKS.answered("undo()", p, p.undo(), 0);
        jobs(p, 1, 102, 3);
        CHECKS.answered("delivered(1, 1, 1)", p, p.delivered(1, 1, 1), 2);
        CHECKS.answered("delivered(0, 0, 0)", p, p.delivered(0, 0, 0), 1);
    }

    private static void moving() {
        TrolleyPlanner p = Texts.plan(THREE + ";job 1 0 0 b 4");
        CHECKS.answered("moveJob(0, 2)", p, p.moveJob(0, 2), 0);
        jobs(p, 102, 3, 1, 104);
        CHECKS.answered("startTime(2)", p, p.startTime(2), 6);
        CHECKS.answered("delivered(0, 0, 0)", p, p.delivered(0, 0, 0), 1);
        CHECKS.answered("delivered(1, 1, 1)", p, p.delivered(1, 1, 1), 2);
        CHECKS.answered("moveJob(3, 0)", p, p.moveJob(3, 0), 0);
        jobs(p, 104, 102, 3, 1);
        CHECKS.answered("moveJob(1, 1)", p, p.moveJob(1, 1), 0);
        jobs(p, 104, 102, 3, 1);
        CHECKS.answered("undo()", p, p.undo(), 2);
        CHECKS.answered("undo()", p, p.undo(), 1);
        jobs(p, 102, 3, 1, 104);
        for (int wrong : new int[] {-1, 4, 20, Integer.MAX_VALUE, Integer.MIN_VALUE}) {
            CHECKS.refused("moveJob(" + wrong + ", 0)", p, p.moveJob(wrong, 0), 1);
            CHECKS.refused("moveJob(0, " + wrong + ")", p, p.moveJob(0, wrong), 1);
        }
    }

    private static void departures() {
        TrolleyPlanner p = Texts.plan(THREE);
        CHECKS.answered("setDeparture(1, 0)", p, p.setDeparture(1, 0), 10);
        CHECKS.answered("departure(1)", p, p.departure(1), 0);
        CHECKS.answered("deliveredTotal()", p, p.deliveredTotal(), 1);
        CHECKS.answered("setDeparture(1, 999)", p, p.setDeparture(1, 999), 0);
        CHECKS.answered("deliveredTotal()", p, p.deliveredTotal(), 6);
        CHECKS.refused("setDeparture(1, 1000)", p, p.setDeparture(1, 1000), 2);
        CHECKS.refused("setDeparture(1, -1)", p, p.setDeparture(1, -1), 2);
        CHECKS.refused("setDeparture(0, 4)", p, p.setDeparture(0, 4), 2);
        CHECKS.answered("setDeparture(0, 5)", p, p.setDeparture(0, 5), 20);
        CHECKS.refused("setDeparture(2, 50)", p, p.setDeparture(2, 50), 1);
        CHECKS.refused("setDeparture(-1, 1000)", p, p.setDeparture(-1, 1000), 1);
        CHECKS.answered("undo()", p, p.undo(), 2);
        CHECKS.answered("departure(0)", p, p.departure(0), 20);
        CHECKS.answered("departure(1)", p, p.departure(1), 999);
    }

    private static void stocks() {
        TrolleyPlanner p = Texts.plan(THREE);
        CHECKS.answered("setStock(0, 1, 1)", p, p.setStock(0, 1, 1), 50);
        CHECKS.answered("stock(0, 1)", p, p.stock(0, 1), 1);
        CHECKS.answered("stock(0, 0)", p, p.stock(0, 0), 50);
        CHECKS.answered("loaded(1)", p, p.loaded(1), 1);
        CHECKS.answered("setStock(0, 1, 999)", p, p.setStock(0, 1, 999), 1);
        CHECKS.answered("setStock(0, 1, 0)", p, p.setStock(0, 1, 0), 999);
        CHECKS.refused("setStock(0, 1, 1000)", p, p.setStock(0, 1, 1000), 2);
        CHECKS.refused("setStock(0, 1, -1)", p, p.setStock(0, 1, -1), 2);
        for (int wrong : new int[] {-1, 2, 3, 4, Integer.MAX_VALUE, Integer.MIN_VALUE}) {
            CHECKS.refused("setStock(" + wrong + ", 0, -1)", p, p.setStock(wrong, 0, -1), 1);
            CHECKS.refused("setStock(0, " + wrong + ", -1)", p, p.setStock(0, wrong, -1), 1);
        }
        CHECKS.answered("undo()", p, p.undo(), 2);
        CHECKS.answered("stock(0, 1)", p, p.stock(0, 1), 999);
        CHECKS.answered("finalStock(0, 1)", p, p.finalStock(0, 1), 997);
    }

    private static void quantities() {
        TrolleyPlanner p = Texts.plan(THREE);
        CHECKS.answered("setQuantity(1, 99)", p, p.setQuantity(1, 99), 2);
        CHECKS.answered("loaded(1)", p, p.loaded(1), 9);
        CHECKS.answered("setQuantity(1, 1)", p, p.setQuantity(1, 1), 99);
        jobs(p, 1, 101, 3);
        CHECKS.refused("setQuantity(1, 0)", p, p.setQuantity(1, 0), 2);
        CHECKS.refused("setQuantity(1, 100)", p, p.setQuantity(1, 100), 2);
        CHECKS.refused("setQuantity(3, 100)", p, p.setQuantity(3, 100), 1);
        CHECKS.refused("setQuantity(-1, 0)", p, p.setQuantity(-1, 0), 1);
        CHECKS.answered("undo()", p, p.undo(), 1);
        jobs(p, 1, 199, 3);
    }

    private static void applyingTheBest() {
        // Trolley 0 can do its jobs of 3 and 2 meals, those of train 1 first.
        TrolleyPlanner p = Texts.plan(NEAR + ";job 0 0 0 a 2;job 1 1 1 b 2;job 0 1 0 a 9;job 0 1 0 a 3;job 1 1 1 b 1");
        CHECKS.answered("bestSet(0)", p, p.bestSet(0), 5);
        CHECKS.answered("applyBest(0)", p, p.applyBest(0), 1);
        jobs(p, 3, 102, 2, 101);
        CHECKS.answered("delivered(1, 0, 0)", p, p.delivered(1, 0, 0), 3);
        CHECKS.answered("delivered(0, 0, 0)", p, p.delivered(0, 0, 0), 2);
        CHECKS.answered("undo()", p, p.undo(), 0);
        jobs(p, 2, 102, 9, 3, 101);
        CHECKS.refused("applyBest(2)", p, p.applyBest(2), 1);
        CHECKS.refused("applyBest(-1)", p, p.applyBest(-1), 1);
        CHECKS.refused("undo() after failed calls", p, p.undo(), 6);
    }

    private static void applyingTheBestAmongOthers() {
        TrolleyPlanner p = Texts.plan(NEAR + ";job 1 0 0 b 9;job 0 0 0 a 5;job 0 1 0 a 4;job 1 1 0 b 8;job 0 1 0 a 1");
        CHECKS.answered("bestSet(0)", p, p.bestSet(0), 7);
        CHECKS.answered("bestOrder(0, 0)", p, p.bestOrder(0, 0), 2);
        CHECKS.answered("bestOrder(0, 1)", p, p.bestOrder(0, 1), 4);
        CHECKS.answered("bestOrder(0, 2)", p, p.bestOrder(0, 2), 1);
        CHECKS.answered("applyBest(0), all in another order", p, p.applyBest(0), 0);
        jobs(p, 109, 4, 1, 108, 5);
        CHECKS.answered("applyBest(0) again", p, p.applyBest(0), 0);
        jobs(p, 109, 4, 1, 108, 5);
        CHECKS.answered("applyBest(1)", p, p.applyBest(1), 1);
        jobs(p, 109, 4, 1, 5);
        p.setDeparture(0, 5);
        CHECKS.answered("applyBest(1), the empty set", p, p.applyBest(1), 1);
        jobs(p, 4, 1, 5);
        CHECKS.answered("applyBest(1) without jobs", p, p.applyBest(1), 0);
        for (int left = 5; left >= 2; left--) {
            CHECKS.answered("undo()", p, p.undo(), left);
        }
        jobs(p, 109, 4, 1, 108, 5);
        CHECKS.answered("undo()", p, p.undo(), 1);
        CHECKS.answered("undo()", p, p.undo(), 0);
        jobs(p, 109, 5, 4, 108, 1);
    }

    private static void undoing() {
        TrolleyPlanner p = Texts.plan(THREE);
        CHECKS.refused("undo()", p, p.undo(), 6);
        p.setQuantity(0, 9);
        p.setStock(0, 0, 5);
        p.setDeparture(0, 99);
        CHECKS.answered("undo()", p, p.undo(), 2);
        CHECKS.answered("departure(0)", p, p.departure(0), 20);
        p.removeJob(1);
        CHECKS.answered("undo()", p, p.undo(), 2);
        jobs(p, 9, 102, 3);
        CHECKS.answered("stock(0, 0)", p, p.stock(0, 0), 5);
        CHECKS.answered("undo()", p, p.undo(), 1);
        CHECKS.answered("stock(0, 0)", p, p.stock(0, 0), 50);
        CHECKS.answered("undo()", p, p.undo(), 0);
        jobs(p, 1, 102, 3);
        CHECKS.refused("undo()", p, p.undo(), 6);
        jobs(p, 1, 102, 3);
    }

    private static void tenChanges() {
        TrolleyPlanner p = Texts.plan(THREE);
        for (int quantity = 11; quantity <= 23; quantity++) {
            p.setQuantity(0, quantity);
        }
        CHECKS.answered("undo()", p, p.undo(), 9);
        CHECKS.answered("jobQuantity(0)", p, p.jobQuantity(0), 22);
        p.setQuantity(0, 50);
        for (int left = 9; left >= 0; left--) {
            CHECKS.answered("undo()", p, p.undo(), left);
            CHECKS.answered("jobQuantity(0)", p, p.jobQuantity(0), 13 + left);
        }
        CHECKS.refused("undo()", p, p.undo(), 6);
        CHECKS.answered("jobQuantity(0)", p, p.jobQuantity(0), 13);
    }

    private static void failedCallsAreNoChanges() {
        TrolleyPlanner p = Texts.plan(THREE);
        p.setQuantity(0, 9);
        p.setQuantity(0, 100);
        p.setQuantity(3, 1);
        p.setStock(0, 0, 1000);
        p.setStock(5, 0, 1);
        p.setDeparture(0, 4);
        p.moveJob(0, 3);
        p.removeJob(3);
        p.addJob(0, 0, 0, 0, 0);
        p.applyBest(2);
        p.save();
        p.load(1);
        CHECKS.answered("undo()", p, p.undo(), 0);
        jobs(p, 1, 102, 3);
    }

    private static void savingAndRestoring() {
        TrolleyPlanner p = Texts.plan(THREE);
        CHECKS.refused("restore()", p, p.restore(), 6);
        p.setQuantity(0, 5);
        CHECKS.answered("save()", p, p.save(), 0);
        CHECKS.answered("undo() after save", p, p.undo(), 0);
        p.setStock(0, 0, 0);
        p.setDeparture(1, 50);
        p.removeJob(1);
        CHECKS.answered("restore()", p, p.restore(), 3);
        jobs(p, 5, 102, 3);
        CHECKS.answered("delivered(1, 1, 1)", p, p.delivered(1, 1, 1), 2);
        CHECKS.answered("delivered(1, 0, 0)", p, p.delivered(1, 0, 0), 0);
        CHECKS.answered("stock(0, 0)", p, p.stock(0, 0), 50);
        CHECKS.answered("departure(1)", p, p.departure(1), 10);
        CHECKS.answered("loaded(0)", p, p.loaded(0), 5);
        CHECKS.refused("undo() after restore", p, p.undo(), 6);
        p.removeJob(0);
        p.removeJob(0);
        CHECKS.answered("restore() again", p, p.restore(), 3);
        jobs(p, 5, 102, 3);
        p.removeJob(2);
        p.save();
        p.removeJob(0);
        CHECKS.answered("restore() of the later one", p, p.restore(), 2);
        jobs(p, 5, 102);
    }

    private static void servedJobs() {
        TrolleyPlanner p = Texts.plan(NEAR + ";job 0 0 0 a 9;job 0 1 0 a 9;job 1 1 1 b 2;job 1 1 0 b 9;job 1 1 0 b 1");
        p.stock(9, 9);
        p.setQuantity(2, 1);
        p.stock(9, 9);
        CHECKS.due("served(0)", p.served(0), 0);
        CHECKS.due("served(1)", p.served(1), 2);
        CHECKS.notServed(p, 2);
        CHECKS.notServed(p, -1);
        CHECKS.notServed(p, Integer.MAX_VALUE);
        CHECKS.notServed(p, Integer.MIN_VALUE);
        CHECKS.due("error() after served", p.error(), 1);
        p.setDeparture(0, 5);
        CHECKS.due("served(0)", p.served(0), 2);
        CHECKS.notServed(p, 1);
        CHECKS.due("error() after served", p.error(), 0);
    }

    private static void errorCodes() {
        TrolleyPlanner p = new TrolleyPlanner();
        CHECKS.due("error() at first", p.error(), 0);
        p.load(5);
        CHECKS.due("error()", p.error(), 2);
        CHECKS.due("error() again", p.error(), 2);
        p.undo();
        CHECKS.due("error()", p.error(), 1);
        Texts.load(p, "x");
        CHECKS.due("error()", p.error(), 4);
        Texts.load(p, NEAR + ";job 0 0 0 a 9");
        CHECKS.due("error()", p.error(), 0);
        p.undo();
        CHECKS.due("error()", p.error(), 6);
        p.append(0, 0, 0, 0, 0);
        CHECKS.due("error() after append", p.error(), 6);
        p.jobCount();
        CHECKS.due("error() after a success", p.error(), 0);
        p.coverage(0, 9, true);
        CHECKS.due("error()", p.error(), 1);
        p.coverage(0, 0, true);
        CHECKS.due("error()", p.error(), 0);
    }

    private ChangesTest() {
    }
}
