import java.util.function.ToIntFunction;

/** The edges of promises 40 to 44: what-if questions. */
final class WhatIfEdges {
    /** The doors are at the kitchen: a job of q meals takes 2 q units. Train 0 leaves at 20, train 1 at 10. */
    private static final String NEAR = "train 0 from 0 to 20;train 1 from 0 to 10;car 0 0 1 0;car 1 0 1 0;meal a 10 0;meal b 1 1;"
        + "kitchen 0;stock 0 a 50;stock 0 b 9;trolley 0 9 1 1 1;trolley 0 9 1 1 1";
    private static final String FIVE = NEAR + ";trolley 0 9 1 1 1".repeat(3);
    /** Eight jobs of trolley 0, eight of trolley 1 and two of trolley 2, all of them without meals. */
    private static final String EIGHTEEN = FIVE + ";meal c 0 0" + ";job 0 0 0 c 1".repeat(8) + ";job 1 0 0 c 1".repeat(8)
        + ";job 2 0 0 c 1".repeat(2);

    static void tell(Edges e) {
        neededDelay(e);
        deliveredWithout(e);
        worstJob(e);
        bestTrolley(e);
        bestSwap(e);
    }

    /** The call answers that in that plan, or fails with error 6, and leaves the plan as it was. */
    private static void asked(Checks c, String what, String text, ToIntFunction<TrolleyPlanner> call, int due) {
        TrolleyPlanner p = Texts.plan(text);
        c.due(what + " in " + text, call.applyAsInt(p), due);
        c.due(what + " in " + text + ", its error code", p.error(), due == Checks.FAILED ? 6 : 0);
        c.same(what, Whole.planOf(p), Whole.planOf(Texts.plan(text)));
    }

    private static void delay(Checks c, String text, int train, int due) {
        asked(c, "neededDelay(" + train + ")", text, p -> p.neededDelay(train), due);
    }

    private static void worst(Checks c, String jobs, int total, int due) {
        asked(c, "deliveredTotal()", NEAR + jobs, p -> p.deliveredTotal(), total);
        asked(c, "worstJob()", NEAR + jobs, p -> p.worstJob(), due);
    }

    private static void swap(Checks c, String jobs, int total, int due) {
        asked(c, "deliveredTotal()", NEAR + jobs, p -> p.deliveredTotal(), total);
        asked(c, "bestSwap()", NEAR + jobs, p -> p.bestSwap(), due);
    }

    // ---- promise 40

    private static void neededDelay(Edges e) {
        String one = NEAR.replace("trolley 0 9", "trolley 0 99");
        e.test("Promise 40", "Returns the smallest number of units by which the departure of a train would have to be", c -> {
            // 9 meals until 18, and then 3 until 24.
            delay(c, one + ";job 0 0 0 a 9", 0, 0);
            delay(c, one + ";job 0 0 0 a 10", 0, 0);
            delay(c, one + ";job 0 0 0 a 11", 0, 2);
            delay(c, one + ";job 0 0 0 a 9;job 0 0 0 a 3", 0, 4);
            delay(c, one.replace("0 to 20", "0 to 19") + ";job 0 0 0 a 10", 0, 1);
            delay(c, one.replace("0 to 20", "0 to 0") + ";job 0 0 0 a 1", 0, 2);
            // Jobs for the other train, without meals, or with less than their quantity leave nothing behind for this one.
            delay(c, one + ";job 0 1 0 a 40", 0, 0);
            delay(c, one + ";job 0 1 0 a 6", 1, 2);
            delay(c, one + ";meal c 0 0;job 0 1 0 c 40", 1, 0);
            delay(c, one.replace("stock 0 a 50", "stock 0 a 5") + ";job 0 1 0 a 40", 1, 0);
            delay(c, NEAR.replace("trolley 0 9", "trolley 0 5") + ";job 0 1 0 a 40", 1, 0);
            delay(c, one, 0, 0);
            // All jobs for the train, of all trolleys: the other one has to wait for the door until 18.
            delay(c, one + ";job 1 0 0 a 9;job 0 0 0 a 9", 0, 7);
            // The jobs for all cars of the train, and for none of the other one.
            for (int car = 0; car < 5; car++) {
                String cars = one.replace("car 1 0 1 0", "car 0 0 1 0;".repeat(4) + "car 1 0 1 0;".repeat(4) + "car 1 0 1 0");
                delay(c, cars + ";job 0 0 " + car + " a 11", 0, 2);
                delay(c, cars + ";job 0 0 " + car + " a 11", 1, 0);
                delay(c, cars + ";job 0 1 " + car + " a 11", 0, 0);
                delay(c, cars + ";job 0 1 " + car + " a 11", 1, 12);
            }
            // The departure, not the arrival: nothing helps a train that comes late but time after that.
            delay(c, one.replace("train 0 from 0 to 20", "train 0 from 30 to 30") + ";job 0 0 0 a 5", 0, 5);
        });
        e.test("Promise 40", "A later departure may be beyond 999 here.", c -> {
            String late = NEAR.replace("train 1 from 0 to 10", "train 1 from 900 to 999").replace("trolley 0 9", "trolley 0 99")
                .replace("stock 0 a 50", "stock 0 a 999");
            delay(c, late + ";job 0 1 0 a 99", 1, 0);
            delay(c, late + ";job 0 1 0 a 99;job 1 1 0 a 1", 1, 1);
            delay(c, late + ";job 0 1 0 a 99;job 1 1 0 a 60", 1, 60);
            delay(c, late + ";job 0 1 0 a 99;job 1 1 0 a 61", 1, Checks.FAILED);
            delay(c, late.replace("to 999", "to 940") + ";job 0 1 0 a 99", 1, 59);
            delay(c, late.replace("to 999", "to 939") + ";job 0 1 0 a 99", 1, 60);
        });
        e.test("Promise 40", "- `train`: 0 or 1", c -> {
            TrolleyPlanner p = Texts.plan(one + ";job 0 0 0 a 11");
            c.indices("neededDelay", p, 2, p::neededDelay);
        });
        e.test("Promise 40", "Returns 0 to 60; FAILED on an error: 1; 6 if 60 are not enough.", c -> {
            // 40 meals need 80 units.
            int[][] due = {{80, 0}, {79, 1}, {22, 58}, {21, 59}, {20, 60}, {19, Checks.FAILED}, {0, Checks.FAILED}};
            for (int[] until : due) {
                delay(c, one.replace("0 to 20", "0 to " + until[0]) + ";job 0 0 0 a 40", 0, until[1]);
            }
            TrolleyPlanner none = new TrolleyPlanner();
            c.refused("neededDelay(0) without a plan", none, none.neededDelay(0), 1);
            // Twenty jobs; those that are removed count no more.
            TrolleyPlanner full = Texts.plan(EIGHTEEN + ";job 3 0 0 a 1;job 3 1 0 a 9");
            c.answered("neededDelay(0) of twenty jobs", full, full.neededDelay(0), 0);
            c.answered("neededDelay(1) of twenty jobs", full, full.neededDelay(1), 10);
            full.removeJob(19);
            c.answered("neededDelay(1) of nineteen jobs", full, full.neededDelay(1), 0);
        });
    }

    // ---- promise 41

    private static void deliveredWithout(Edges e) {
        e.test("Promise 41", "Returns the sum of the meals that would be unloaded for all jobs if a trolley did none of", c -> {
            TrolleyPlanner p = Texts.plan(NEAR + ";job 0 0 0 a 3;job 1 1 0 a 2;job 0 1 0 a 1");
            c.answered("deliveredTotal()", p, p.deliveredTotal(), 6);
            c.answered("deliveredWithout(0)", p, p.deliveredWithout(0), 2);
            c.answered("deliveredWithout(1)", p, p.deliveredWithout(1), 4);
            c.answered("deliveredTotal() as before", p, p.deliveredTotal(), 6);
            c.answered("jobCount() as before", p, p.jobCount(), 3);
            // Each gets what the other one would have taken: trolley 0 takes 3 meals, trolley 1 only 1, or 2 without the other.
            p.setStock(0, 0, 4);
            c.answered("deliveredTotal()", p, p.deliveredTotal(), 4);
            c.answered("deliveredWithout(0) with little stock", p, p.deliveredWithout(0), 2);
            c.answered("deliveredWithout(1) with little stock", p, p.deliveredWithout(1), 4);
            // The door is free without it.
            TrolleyPlanner door = Texts.plan(NEAR + ";job 0 1 0 a 4;job 1 1 0 a 5");
            c.answered("deliveredTotal()", door, door.deliveredTotal(), 6);
            c.answered("deliveredWithout(0)", door, door.deliveredWithout(0), 5);
            c.answered("deliveredWithout(1)", door, door.deliveredWithout(1), 4);
        });
        e.test("Promise 41", "- `trolley`: index of the trolley", c -> {
            TrolleyPlanner p = Texts.plan(FIVE + ";job 0 0 0 a 1;job 4 0 0 a 1");
            c.indices("deliveredWithout", p, 5, p::deliveredWithout);
            TrolleyPlanner one = Texts.plan(Texts.SMALL);
            c.indices("deliveredWithout", one, 1, one::deliveredWithout);
        });
        e.test("Promise 41", "Returns the number of meals; FAILED on an error: 1.", c -> {
            TrolleyPlanner none = new TrolleyPlanner();
            c.refused("deliveredWithout(0) without a plan", none, none.deliveredWithout(0), 1);
            TrolleyPlanner p = Texts.plan(NEAR);
            c.answered("without jobs", p, p.deliveredWithout(0), 0);
            p.addJob(0, 0, 0, 0, 5);
            c.answered("without all jobs", p, p.deliveredWithout(0), 0);
            c.answered("without a trolley that has no jobs", p, p.deliveredWithout(1), 5);
            // Twenty jobs, eight of them of one trolley, first and last among them.
            TrolleyPlanner full = Texts.plan(NEAR.replace("0 to 20", "0 to 999") + ";trolley 0 9 1 1 1" + ";job 1 0 0 a 1".repeat(4)
                + ";job 2 0 0 a 1;job 0 0 0 a 1;job 2 0 0 a 1;job 0 0 0 a 1;job 2 0 0 a 1;job 0 0 0 a 1;job 2 0 0 a 1;"
                + "job 0 0 0 a 1;job 0 0 0 a 1;job 2 0 0 a 1;job 0 0 0 a 1;job 2 0 0 a 1" + ";job 1 0 0 a 1".repeat(4));
            c.answered("deliveredTotal()", full, full.deliveredTotal(), 20);
            c.answered("without eight jobs", full, full.deliveredWithout(1), 12);
            c.answered("without six jobs", full, full.deliveredWithout(2), 14);
        });
    }

    // ---- promise 42

    private static void worstJob(Edges e) {
        e.test("Promise 42", "Returns the job whose removal would increase the sum of the meals that are unloaded for", c -> {
            // The last job starts at 2 and unloads 3 of its 5 meals; without the first one it unloads all.
            worst(c, ";job 0 0 0 a 1;job 0 1 0 a 5", 4, 0);
            // The last job starts at 4: without either of the equal ones it starts at 2, one meal more.
            worst(c, ";job 0 0 0 a 1;job 0 0 0 a 1;job 0 1 0 a 5", 3, 0);
            // It starts at 6: without the job of 1 meal it starts at 4, without that of 2 meals at 2.
            worst(c, ";job 0 0 0 a 1;job 0 0 0 a 2;job 0 1 0 a 5", 3, 1);
            worst(c, ";job 0 0 0 a 2;job 0 0 0 a 1;job 0 1 0 a 5", 3, 0);
            // The job of a trolley that takes all meals b and unloads one of them.
            worst(c, ";job 1 0 0 b 9;job 0 1 0 b 9;job 1 1 0 a 1", 2, 1);
            // The last of twenty jobs takes all meals b, too.
            TrolleyPlanner p = Texts.plan(EIGHTEEN + ";job 4 0 0 b 5;job 3 1 0 b 9");
            c.answered("deliveredTotal()", p, p.deliveredTotal(), 1);
            c.answered("worstJob(), the last one", p, p.worstJob(), 19);
        });
        e.test("Promise 42", "Returns the index of the job; FAILED on an error: 1; 6 if no removal increases it.", c -> {
            TrolleyPlanner none = new TrolleyPlanner();
            c.refused("worstJob() without a plan", none, none.worstJob(), 1);
            worst(c, "", 0, Checks.FAILED);
            worst(c, ";job 0 0 0 a 1", 1, Checks.FAILED);
            // A job that delivers nothing: without it the sum stays the same.
            worst(c, ";job 0 0 0 a 9;job 0 1 0 a 1", 9, Checks.FAILED);
            worst(c, ";job 0 1 0 a 9", 1, Checks.FAILED);
            // 2 less and 2 more.
            worst(c, ";job 0 0 0 a 2;job 0 1 0 a 4", 4, Checks.FAILED);
        });
    }

    // ---- promise 43

    private static void bestTrolley(Edges e) {
        e.test("Promise 43", "Returns the trolley that should do a job", c -> {
            TrolleyPlanner p = Texts.plan(NEAR + ";job 0 0 0 a 4;job 0 1 0 a 5");
            c.answered("bestTrolley(0), which is in the way", p, p.bestTrolley(0), 1);
            c.answered("bestTrolley(1), which comes too late", p, p.bestTrolley(1), 1);
            c.answered("jobTrolley(1) as before", p, p.jobTrolley(1), 0);
            c.answered("deliveredTotal() as before", p, p.deliveredTotal(), 4);
            // Of equal ones the smallest index, also if it is another trolley.
            TrolleyPlanner equal = Texts.plan(FIVE + ";job 4 0 0 a 4");
            c.answered("bestTrolley(0) of five equal ones", equal, equal.bestTrolley(0), 0);
            TrolleyPlanner speeds = Texts.plan(NEAR.replace("car 0 0", "car 0 18")
                + ";trolley 0 9 9 1 1;trolley 0 9 9 1 1;job 0 0 0 a 2");
            c.answered("bestTrolley(0) of two faster ones", speeds, speeds.bestTrolley(0), 2);
            // At the same index: between two others, trolley 1 does it first, trolley 0 last.
            TrolleyPlanner index = Texts.plan(NEAR + ";job 0 0 0 a 5;job 1 1 0 a 5;job 1 0 0 a 5");
            c.answered("bestTrolley(1)", index, index.bestTrolley(1), 1);
            // It is best not done at all, but some trolley does it: trolley 0 unloads 1 of all 9 meals b, and none are left for
            // job 1; trolley 1 does both jobs, brings 8 meals back at 10, and unloads 2 of them. Without it there would be 9.
            TrolleyPlanner harm = Texts.plan(NEAR + ";job 0 1 0 b 9;job 1 0 0 b 9");
            c.answered("deliveredTotal()", harm, harm.deliveredTotal(), 1);
            c.answered("deliveredWithout(0)", harm, harm.deliveredWithout(0), 9);
            c.answered("bestTrolley(0) of a job that is best not done", harm, harm.bestTrolley(0), 1);
            TrolleyPlanner most = Texts.plan(FIVE + ";job 0 1 0 b 9;job 4 0 0 b 9");
            c.answered("bestTrolley(0) with as many trolleys as there may be", most, most.bestTrolley(0), 4);
        });
        e.test("Promise 43", "Its own trolley is considered, too, but no other trolley that has 8 jobs.", c -> {
            // Trolley 0 has 8 jobs without meals: its own, or too many for another one.
            String eight = NEAR + ";meal c 0 0" + ";job 0 0 0 c 1".repeat(7);
            TrolleyPlanner own = Texts.plan(eight + ";job 0 0 0 a 4");
            c.answered("its own, with 8 jobs", own, own.bestTrolley(7), 0);
            TrolleyPlanner full = Texts.plan(eight + ";job 0 0 0 c 1;job 1 0 0 a 4");
            c.answered("another one, with 8 jobs", full, full.bestTrolley(8), 1);
            TrolleyPlanner seven = Texts.plan(eight + ";job 1 0 0 a 4");
            c.answered("another one, with 7 jobs", seven, seven.bestTrolley(7), 0);
            full.removeJob(0);
            c.answered("another one, with 7 jobs now", full, full.bestTrolley(7), 0);
            full.undo();
            c.answered("another one, with 8 jobs again", full, full.bestTrolley(8), 1);
            // All others have 8 jobs.
            TrolleyPlanner only = Texts.plan(eight + ";job 0 0 0 c 1" + ";trolley 0 9 1 1 1" + ";job 1 0 0 c 1".repeat(8)
                + ";job 2 0 0 a 4");
            c.answered("the only one", only, only.bestTrolley(16), 2);
            c.answered("its own, which is full, and not the other full one", only, only.bestTrolley(15), 1);
        });
        e.test("Promise 43", "- `job`: index of the job", c -> {
            TrolleyPlanner full = Texts.plan(Texts.full());
            c.indices("bestTrolley", full, 20, full::bestTrolley);
            TrolleyPlanner one = Texts.plan(NEAR + ";job 0 0 0 a 1");
            c.indices("bestTrolley", one, 1, one::bestTrolley);
            TrolleyPlanner none = Texts.plan(NEAR);
            c.indices("bestTrolley without jobs", none, 0, none::bestTrolley);
        });
        e.test("Promise 43", "Returns the index of the trolley; FAILED on an error: 1.", c -> {
            TrolleyPlanner none = new TrolleyPlanner();
            c.refused("bestTrolley(0) without a plan", none, none.bestTrolley(0), 1);
            // Nothing is delivered by any: all are equal.
            TrolleyPlanner p = Texts.plan(NEAR.replace("0 to 20", "0 to 0") + ";job 1 0 0 a 4");
            c.answered("bestTrolley(0) in vain", p, p.bestTrolley(0), 0);
            TrolleyPlanner last = Texts.plan(NEAR.replace("car 0 0", "car 0 18")
                + ";trolley 0 9 1 1 1;trolley 0 9 1 1 1;trolley 0 9 9 1 1;job 0 0 0 a 4");
            c.answered("the last trolley", last, last.bestTrolley(0), 4);
        });
    }

    // ---- promise 44

    private static void bestSwap(Edges e) {
        e.test("Promise 44", "Returns the two jobs that should exchange their indices", c -> {
            swap(c, ";job 0 0 0 a 5;job 0 1 0 a 5", 5, 1);
            // Most: 5 and 4 meals with jobs 0 and 2 exchanged, 1 and 5 with jobs 0 and 1.
            swap(c, ";job 0 0 0 a 5;job 0 1 0 a 1;job 0 1 0 a 5", 5, 2);
            swap(c, ";job 0 0 0 a 5;job 0 1 0 a 5;job 0 1 0 a 4", 5, 1);
            swap(c, ";job 0 1 0 a 1;job 0 0 0 a 4;job 0 1 0 a 3", 5, 102);
            // Equal ones: the smallest first index, then the smallest second one.
            swap(c, ";job 1 0 0 a 5;job 1 1 0 a 5;job 0 0 0 a 5;job 0 1 0 a 5", 10, 1);
            swap(c, ";job 0 0 0 a 2;job 0 1 0 a 5;job 0 1 0 a 5", 3, 1);
            // A job exchanged with one of another trolley: job 3 is then the first one of its own, as with jobs 1 and 3.
            swap(c, ";job 1 0 0 b 1;job 0 0 0 a 5;job 1 0 0 b 1;job 0 1 0 a 5", 7, 3);
            swap(c, ";job 1 1 0 a 1;job 0 0 0 a 4;job 1 0 0 a 5;job 0 1 0 a 4", 10, 103);
            // One meal more is enough, and none more is not.
            swap(c, ";job 0 0 0 a 9;job 0 1 0 a 1", 9, 1);
            swap(c, ";job 0 0 0 a 4;job 0 1 0 a 1", 5, Checks.FAILED);
        });
        e.test("Promise 44", "Returns 100 times the first index plus the second one; FAILED on an error: 1; 6 if no", c -> {
            TrolleyPlanner none = new TrolleyPlanner();
            c.refused("bestSwap() without a plan", none, none.bestSwap(), 1);
            swap(c, "", 0, Checks.FAILED);
            swap(c, ";job 0 0 0 a 5", 5, Checks.FAILED);
            swap(c, ";job 0 1 0 a 5;job 0 0 0 a 5", 10, Checks.FAILED);
            swap(c, ";job 0 0 0 a 5;job 0 0 0 a 5", 10, Checks.FAILED);
            swap(c, ";job 0 0 0 a 5;job 1 1 0 a 5", 10, Checks.FAILED);
            // The first and the last of twenty jobs: the last one is then done before job 18.
            TrolleyPlanner p = Texts.plan(EIGHTEEN + ";job 3 0 0 a 5;job 3 1 0 a 5");
            c.answered("bestSwap() of twenty jobs", p, p.bestSwap(), 19);
        });
    }

    private WhatIfEdges() {
    }
}
