/** Promises 40 to 44: what-if questions. None of them changes the plan. */
public final class WhatIfTest {
    private static final Checks CHECKS = new Checks("WhatIfTest");
    /** The doors stand at the kitchen, so that a job of q meals takes 2 q units. */
    private static final String NEAR = "train 0 from 0 to 20;train 1 from 0 to 10;car 0 0 1 0;car 1 0 1 0;meal a 10 0;"
        + "kitchen 0;stock 0 a 50;trolley 0 9 1 1 1;trolley 0 9 1 1 1";

    public static void main(String[] args) {
        withoutAPlan();
        wrongIndices();
        delays();
        delaysBeyondTheRange();
        withoutATrolley();
        worstJobs();
        bestTrolleys();
        nothingToDeliver();
        fullTrolleys();
        bestSwaps();
        nothingChanges();
        CHECKS.end();
    }

    private static void withoutAPlan() {
        TrolleyPlanner p = new TrolleyPlanner();
        CHECKS.refused("neededDelay(0)", p, p.neededDelay(0), 1);
        CHECKS.refused("deliveredWithout(0)", p, p.deliveredWithout(0), 1);
        CHECKS.refused("worstJob()", p, p.worstJob(), 1);
        CHECKS.refused("bestTrolley(0)", p, p.bestTrolley(0), 1);
        CHECKS.refused("bestSwap()", p, p.bestSwap(), 1);
    }

    private static void wrongIndices() {
        TrolleyPlanner p = Texts.plan(NEAR + ";job 0 0 0 a 1");
        for (int wrong : new int[] {-1, 2, 20, Integer.MAX_VALUE, Integer.MIN_VALUE}) {
            CHECKS.refused("neededDelay(" + wrong + ")", p, p.neededDelay(wrong), 1);
            CHECKS.refused("deliveredWithout(" + wrong + ")", p, p.deliveredWithout(wrong), 1);
            CHECKS.refused("bestTrolley(" + wrong + ")", p, p.bestTrolley(wrong), 1);
        }
        CHECKS.refused("bestTrolley(1)", p, p.bestTrolley(1), 1);
        TrolleyPlanner none = Texts.plan(NEAR);
        CHECKS.refused("worstJob() without jobs", none, none.worstJob(), 6);
        CHECKS.refused("bestSwap() without jobs", none, none.bestSwap(), 6);
        CHECKS.refused("bestTrolley(0) without jobs", none, none.bestTrolley(0), 1);
        CHECKS.answered("neededDelay(0) without jobs", none, none.neededDelay(0), 0);
    }

    private static void delays() {
        TrolleyPlanner p = Texts.plan(NEAR + ";job 0 1 0 a 5;job 0 1 0 a 6");
        CHECKS.answered("neededDelay(1)", p, p.neededDelay(1), 12);
        CHECKS.answered("neededDelay(0)", p, p.neededDelay(0), 0);
        p.setDeparture(1, 22);
        CHECKS.answered("neededDelay(1) in time", p, p.neededDelay(1), 0);
        p.setDeparture(1, 21);
        CHECKS.answered("neededDelay(1) short of 1", p, p.neededDelay(1), 1);
        // Each train has its own delay.
        p.setDeparture(0, 20);
        p.addJob(1, 0, 0, 0, 9);
        p.addJob(1, 0, 0, 0, 4);
        CHECKS.answered("neededDelay(0)", p, p.neededDelay(0), 6);
        CHECKS.answered("neededDelay(1) short of 1", p, p.neededDelay(1), 1);
        p.removeJob(3);
        p.removeJob(2);
        // A job that has nothing to load leaves nothing behind.
        p.setStock(0, 0, 5);
        CHECKS.answered("neededDelay(1) with little stock", p, p.neededDelay(1), 0);
    }

    private static void delaysBeyondTheRange() {
        String text = "train 0 from 0 to 9;train 1 from 900 to 940;car 0 0 1 0;car 1 0 1 0;meal a 10 0;"
            + "kitchen 0;stock 0 a 50;trolley 0 50 1 1 2;job 0 1 0 a 50";
        TrolleyPlanner p = Texts.plan(text);
        CHECKS.answered("neededDelay(1)", p, p.neededDelay(1), 60);
        p.setDeparture(1, 939);
        CHECKS.refused("neededDelay(1)", p, p.neededDelay(1), 6);
        p.setDeparture(1, 999);
        CHECKS.answered("neededDelay(1)", p, p.neededDelay(1), 1);
    }

    private static void withoutATrolley() {
        // Both trolleys unload at the same door; the stock is enough for one of them.
        TrolleyPlanner p = Texts.plan(NEAR.replace("stock 0 a 50", "stock 0 a 8")
            + ";job 0 0 0 a 5;job 1 0 0 a 6;job 1 1 0 a 1;job 0 0 0 a 1");
        CHECKS.answered("deliveredTotal()", p, p.deliveredTotal(), 8);
        CHECKS.answered("deliveredWithout(0)", p, p.deliveredWithout(0), 6);
        CHECKS.answered("deliveredWithout(1)", p, p.deliveredWithout(1), 6);
        p.setStock(0, 0, 20);
        CHECKS.answered("deliveredWithout(0)", p, p.deliveredWithout(0), 6);
        p.setQuantity(1, 4);
        CHECKS.answered("deliveredWithout(0)", p, p.deliveredWithout(0), 5);
        p.removeJob(0);
        p.removeJob(2);
        CHECKS.answered("deliveredWithout(0) without jobs", p, p.deliveredWithout(0), p.deliveredTotal());
    }

    private static void worstJobs() {
        // The second job comes too late for its train because of the first one.
        TrolleyPlanner p = Texts.plan(NEAR + ";job 0 0 0 a 4;job 0 1 0 a 5");
        CHECKS.answered("deliveredTotal()", p, p.deliveredTotal(), 4);
        CHECKS.answered("worstJob()", p, p.worstJob(), 0);
        p.setQuantity(1, 4);
        CHECKS.refused("worstJob() with an equal sum", p, p.worstJob(), 6);
        TrolleyPlanner equal = Texts.plan(NEAR + ";job 1 0 0 a 1;job 0 0 0 a 2;job 0 0 0 a 2;job 0 1 0 a 5");
        CHECKS.answered("deliveredTotal()", equal, equal.deliveredTotal(), 5);
        CHECKS.refused("worstJob() of equal removals", equal, equal.worstJob(), 6);
        equal.setDeparture(1, 11);
        equal.setQuantity(1, 1);
        equal.setQuantity(2, 1);
        CHECKS.answered("deliveredTotal()", equal, equal.deliveredTotal(), 5);
        CHECKS.answered("worstJob() of equal removals", equal, equal.worstJob(), 1);
    }

    private static void bestTrolleys() {
        TrolleyPlanner p = Texts.plan(NEAR + ";job 0 0 0 a 4;job 0 1 0 a 5");
        CHECKS.answered("bestTrolley(0)", p, p.bestTrolley(0), 1);
        CHECKS.answered("bestTrolley(1)", p, p.bestTrolley(1), 1);
        TrolleyPlanner equal = Texts.plan(NEAR + ";job 1 0 0 a 4");
        CHECKS.answered("bestTrolley(0) of equal ones", equal, equal.bestTrolley(0), 0);
        TrolleyPlanner own = Texts.plan(NEAR + ";job 0 1 0 a 5;job 1 0 0 a 9");
        CHECKS.answered("bestTrolley(1), its own", own, own.bestTrolley(1), 1);
        // The job keeps its index, and so its place among the jobs of the other trolley.
        TrolleyPlanner place = Texts.plan(NEAR + ";job 0 0 0 a 9;job 0 1 0 a 5;job 1 0 0 a 5");
        CHECKS.answered("bestTrolley(1)", place, place.bestTrolley(1), 1);
    }

    private static void nothingToDeliver() {
        TrolleyPlanner p = Texts.plan(NEAR.replace("stock 0 a 50", "stock 0 a 0") + ";job 1 0 0 a 4;job 0 1 0 a 5");
        CHECKS.answered("bestTrolley(0)", p, p.bestTrolley(0), 0);
        CHECKS.answered("bestTrolley(1)", p, p.bestTrolley(1), 0);
        CHECKS.answered("deliveredWithout(1)", p, p.deliveredWithout(1), 0);
        CHECKS.refused("worstJob()", p, p.worstJob(), 6);
        CHECKS.refused("bestSwap()", p, p.bestSwap(), 6);
    }

    private static void fullTrolleys() {
        StringBuilder text = new StringBuilder(NEAR);
        for (int job = 0; job < 8; job++) {
            text.append(";job 0 0 0 a 1");
        }
        TrolleyPlanner p = Texts.plan(text + ";job 1 1 0 a 5;job 1 1 0 a 5");
        CHECKS.answered("bestTrolley(9), trolley 0 is full", p, p.bestTrolley(9), 1);
        CHECKS.answered("bestTrolley(3), its own is full", p, p.bestTrolley(3), 0);
        p.removeJob(0);
        CHECKS.answered("bestTrolley(8), trolley 0 has 7 jobs", p, p.bestTrolley(8), 0);
    }

    private static void bestSwaps() {
        TrolleyPlanner p = Texts.plan(NEAR + ";job 0 0 0 a 4;job 0 1 0 a 5");
        CHECKS.answered("bestSwap()", p, p.bestSwap(), 1);
        TrolleyPlanner later = Texts.plan(NEAR + ";job 1 1 0 a 1;job 0 0 0 a 4;job 1 0 0 a 5;job 0 1 0 a 4");
        CHECKS.answered("deliveredTotal()", later, later.deliveredTotal(), 10);
        CHECKS.answered("bestSwap()", later, later.bestSwap(), 103);
        TrolleyPlanner equal = Texts.plan(NEAR + ";job 0 0 0 a 2;job 0 0 0 a 2;job 0 1 0 a 5");
        CHECKS.answered("deliveredTotal()", equal, equal.deliveredTotal(), 4);
        CHECKS.answered("bestSwap()", equal, equal.bestSwap(), 2);
        TrolleyPlanner good = Texts.plan(NEAR + ";job 0 1 0 a 5;job 0 0 0 a 5");
        CHECKS.refused("bestSwap() of a good order", good, good.bestSwap(), 6);
        TrolleyPlanner same = Texts.plan(NEAR + ";job 0 0 0 a 5;job 0 0 0 a 5");
        CHECKS.refused("bestSwap() with equal sums", same, same.bestSwap(), 6);
        TrolleyPlanner twin = Texts.plan(NEAR + ";job 0 0 0 a 4;job 0 1 0 a 5;job 0 1 0 a 5");
        CHECKS.answered("bestSwap() of equal pairs", twin, twin.bestSwap(), 1);
    }

    private static void nothingChanges() {
        TrolleyPlanner p = Texts.plan(NEAR + ";job 0 0 0 a 4;job 0 1 0 a 5;job 1 0 0 a 3");
        p.setQuantity(2, 2);
        for (int i = 0; i < 2; i++) {
            p.neededDelay(i);
            p.deliveredWithout(i);
            p.bestTrolley(i);
            p.worstJob();
            p.bestSwap();
        }
        CHECKS.due("jobCount()", p.jobCount(), 3);
        CHECKS.due("departure(1)", p.departure(1), 10);
        CHECKS.due("deliveredTotal()", p.deliveredTotal(), 6);
        CHECKS.due("unloaded(0)", p.unloaded(0), 4);
        CHECKS.due("jobTrolley(0)", p.jobTrolley(0), 0);
        CHECKS.due("jobTrolley(2)", p.jobTrolley(2), 1);
        CHECKS.answered("undo()", p, p.undo(), 0);
        CHECKS.due("jobQuantity(2)", p.jobQuantity(2), 3);
    }

    private WhatIfTest() {
    }
}
