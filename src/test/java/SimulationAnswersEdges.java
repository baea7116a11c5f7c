import java.util.function.IntUnaryOperator;
import java.util.function.ToIntBiFunction;

/** The edges of promises 16 to 29: what the simulation tells. */
final class SimulationAnswersEdges {
    private static final String ONE = "trolley 0 99 1 1 1";
    /** The doors are a walk of 4 away; the trains are there from 10 to 60 and from 20 to 80. */
    private static final String FAR = "train 0 from 10 to 60;train 1 from 20 to 80;car 0 4 9 9;car 1 4 9 9;meal a 10 10;"
        + "meal b 1 1;kitchen 0;stock 0 a 50;";
    /** Job 0 delivers 3 meals, job 1 has nothing to load, job 2 delivers 2 and job 3 delivers 6. */
    private static final String FOUR = FAR + ONE + ";job 0 0 0 a 3;job 0 0 0 b 3;job 0 1 0 a 2;job 0 0 0 a 6";
    private static final String NEAR = "train 0 from 0 to 999;train 1 from 0 to 999;car 0 0 9 9;car 1 0 9 9;meal a 10 10;"
        + "kitchen 0;stock 0 a 999;";

    static void tell(Edges e) {
        startTimes(e);
        loadedAndUnloaded(e);
        unloadTimes(e);
        finishTimes(e);
        delivered(e);
        sums(e);
        shortages(e);
        waits(e);
        busyDoors(e);
        states(e);
        mealsOnTrolleys(e);
    }

    // ---- what the tests below share

    private static void jobIndex(Edges e, String part, ToIntBiFunction<TrolleyPlanner, Integer> call) {
        e.test(part, "- `job`: index of the job", c -> {
            TrolleyPlanner full = Texts.plan(Texts.full());
            c.indices(part + " of job", full, 20, job -> call.applyAsInt(full, job));
            TrolleyPlanner one = Texts.plan(FAR + ONE + ";job 0 0 0 a 1");
            c.indices(part + " of job", one, 1, job -> call.applyAsInt(one, job));
            one.removeJob(0);
            c.indices(part + " without jobs", one, 0, job -> call.applyAsInt(one, job));
        });
    }

    private static void noPlan(Checks c, IntUnaryOperator call, TrolleyPlanner none) {
        c.indices("without a plan", none, 0, call::applyAsInt);
        c.refused("without a plan, 0", none, call.applyAsInt(0), 1);
    }

    /** The indices of a train, a car and a meal, first in a plan with one of each, then with as many as there may be. */
    private static void carMealIndices(Edges e, String part, Asks call) {
        e.test(part, "- `train`: 0 or 1", c -> {
            TrolleyPlanner full = Texts.plan(Texts.full());
            c.indices("train", full, 2, t -> call.of(full, t, 4, 3));
        });
        e.test(part, "- `car`: index of the car", c -> {
            for (int train = 0; train < 2; train++) {
                final int t = train;
                TrolleyPlanner more = Texts.plan(FAR + ONE + (";car " + train + " 4 1 1").repeat(4));
                c.indices("car of five", more, 5, car -> call.of(more, t, car, 1));
                c.indices("car of one", more, 1, car -> call.of(more, 1 - t, car, 1));
            }
        });
        e.test(part, "- `meal`: index of the meal", c -> {
            TrolleyPlanner full = Texts.plan(Texts.full());
            c.indices("meal of four", full, 4, m -> call.of(full, 1, 4, m));
            TrolleyPlanner one = Texts.plan(NEAR + ONE);
            c.indices("meal of one", one, 1, m -> call.of(one, 1, 0, m));
        });
    }

    private interface Asks {
        int of(TrolleyPlanner p, int train, int car, int meal);
    }

    private static void trolleyIndex(Edges e, String part, ToIntBiFunction<TrolleyPlanner, Integer> call) {
        e.test(part, "- `trolley`: index of the trolley", c -> {
            TrolleyPlanner full = Texts.plan(Texts.full());
            c.indices(part + " of trolley", full, 5, trolley -> call.applyAsInt(full, trolley));
            TrolleyPlanner one = Texts.plan(NEAR + ONE);
            c.indices(part + " of trolley", one, 1, trolley -> call.applyAsInt(one, trolley));
        });
    }

    private static void timeIndex(Edges e, String part, ToIntBiFunction<TrolleyPlanner, Integer> call) {
        e.test(part, "- `time`: 0 to 9999", c -> {
            for (String text : new String[] {NEAR + ONE, FOUR, Texts.full()}) {
                TrolleyPlanner p = Texts.plan(text);
                c.numbers(part + " at", p, 0, 9999, time -> call.applyAsInt(p, time));
            }
        });
    }

    // ---- promises 16 to 20

    private static void startTimes(Edges e) {
        e.test("Promise 16", "Returns the time at which a job starts.", c -> {
            TrolleyPlanner p = Texts.plan(FOUR);
            // 3 + 4 = 7, wait until 10, 3 + 4 more: 17; 2 + 4 = 23, 2 + 4 more: 29.
            int[] due = {0, 17, 17, 29};
            for (int job = 0; job < 4; job++) {
                c.answered("startTime(" + job + ")", p, p.startTime(job), due[job]);
            }
        });
        jobIndex(e, "Promise 16", TrolleyPlanner::startTime);
        e.test("Promise 16", "Returns the time; FAILED on an error: 1.", c -> {
            TrolleyPlanner none = new TrolleyPlanner();
            noPlan(c, none::startTime, none);
            TrolleyPlanner p = Texts.plan(NEAR + ONE + ";job 0 0 0 a 1");
            c.answered("the least time", p, p.startTime(0), 0);
        });
    }

    private static void loadedAndUnloaded(Edges e) {
        e.test("Promise 17", "Returns how many meals are loaded for a job.", c -> {
            TrolleyPlanner p = Texts.plan(FOUR);
            int[] due = {3, 0, 2, 6};
            for (int job = 0; job < 4; job++) {
                c.answered("loaded(" + job + ")", p, p.loaded(job), due[job]);
            }
        });
        jobIndex(e, "Promise 17", TrolleyPlanner::loaded);
        e.test("Promise 17", "Returns the number of meals; FAILED on an error: 1.", c -> {
            TrolleyPlanner none = new TrolleyPlanner();
            noPlan(c, none::loaded, none);
            TrolleyPlanner p = Texts.plan(NEAR + ONE + ";job 0 0 0 a 99");
            c.answered("the most meals", p, p.loaded(0), 99);
            p.setStock(0, 0, 0);
            c.answered("the fewest meals", p, p.loaded(0), 0);
        });
        e.test("Promise 18", "Returns how many meals of a job are unloaded at the door.", c -> {
            TrolleyPlanner p = Texts.plan(FOUR);
            // Job 3 starts at 29, loads until 35 and reaches the door at 39.
            int[] due = {3, 0, 2, 6};
            for (int job = 0; job < 4; job++) {
                c.answered("unloaded(" + job + ")", p, p.unloaded(job), due[job]);
            }
            p.setDeparture(0, 44);
            c.answered("unloaded(3) until 44", p, p.unloaded(3), 5);
            p.setDeparture(0, 40);
            c.answered("unloaded(3) until 40", p, p.unloaded(3), 1);
            p.setDeparture(0, 39);
            c.answered("unloaded(3) until 39", p, p.unloaded(3), 0);
            p.setStock(0, 0, 0);
            for (int job = 0; job < 4; job++) {
                c.answered("unloaded(" + job + ") when nothing is loaded any more", p, p.unloaded(job), 0);
            }
        });
        jobIndex(e, "Promise 18", TrolleyPlanner::unloaded);
        e.test("Promise 18", "Returns the number of meals; FAILED on an error: 1.", c -> {
            TrolleyPlanner none = new TrolleyPlanner();
            noPlan(c, none::unloaded, none);
            TrolleyPlanner p = Texts.plan(NEAR + ONE + ";job 0 0 0 a 99");
            c.answered("the most meals", p, p.unloaded(0), 99);
            p.setDeparture(0, 99);
            c.answered("the fewest meals", p, p.unloaded(0), 0);
        });
    }

    private static void unloadTimes(Edges e) {
        e.test("Promise 19", "Returns the time at which unloading begins for a job.", c -> {
            TrolleyPlanner p = Texts.plan(FOUR);
            c.answered("unloadTime(0)", p, p.unloadTime(0), 10);
            c.answered("unloadTime(2)", p, p.unloadTime(2), 23);
            c.answered("unloadTime(3)", p, p.unloadTime(3), 39);
        });
        e.test("Promise 19", "- `job`: index of the job", c -> {
            TrolleyPlanner full = Texts.plan(NEAR + (ONE + ";").repeat(3) + "job 2 1 0 a 1"
                + ";job 0 0 0 a 1".repeat(8) + ";job 1 0 0 a 1".repeat(8) + ";job 2 1 0 a 1".repeat(3));
            c.indices("unloadTime", full, 20, full::unloadTime);
            full.removeJob(0);
            c.indices("unloadTime", full, 19, full::unloadTime);
            TrolleyPlanner one = Texts.plan(NEAR + ONE + ";job 0 0 0 a 1");
            c.indices("unloadTime", one, 1, one::unloadTime);
        });
        e.test("Promise 19", "Returns the time; FAILED on an error: 1; 6 if nothing is unloaded.", c -> {
            TrolleyPlanner none = new TrolleyPlanner();
            noPlan(c, none::unloadTime, none);
            TrolleyPlanner p = Texts.plan(FOUR);
            c.refused("unloadTime(1), nothing is loaded", p, p.unloadTime(1), 6);
            p.setDeparture(0, 40);
            c.answered("unloadTime(3), one meal", p, p.unloadTime(3), 39);
            p.setDeparture(0, 39);
            c.refused("unloadTime(3), no meal", p, p.unloadTime(3), 6);
            c.refused("unloadTime(4), no job", p, p.unloadTime(4), 1);
            p.setDeparture(0, 60);
            c.answered("unloadTime(3), all meals", p, p.unloadTime(3), 39);
            p.setStock(0, 0, 0);
            c.refused("unloadTime(3), nothing is loaded any more", p, p.unloadTime(3), 6);
        });
    }

    private static void finishTimes(Edges e) {
        e.test("Promise 20", "Returns the time at which a job is finished", c -> {
            TrolleyPlanner p = Texts.plan(FOUR);
            int[] due = {17, 17, 29, 49};
            for (int job = 0; job < 4; job++) {
                c.answered("finishTime(" + job + ")", p, p.finishTime(job), due[job]);
            }
            p.setDeparture(0, 39);
            c.answered("finishTime(3) when nothing is unloaded", p, p.finishTime(3), 43);
            p.setStock(0, 0, 0);
            for (int job = 0; job < 4; job++) {
                c.answered("finishTime(" + job + ") when nothing is loaded", p, p.finishTime(job), 0);
            }
        });
        jobIndex(e, "Promise 20", TrolleyPlanner::finishTime);
        e.test("Promise 20", "Returns the time; FAILED on an error: 1.", c -> {
            TrolleyPlanner none = new TrolleyPlanner();
            noPlan(c, none::finishTime, none);
            // As long as eight jobs can take: one ends at the last departure, seven load 99 * 5 units and walk 99 twice in vain.
            TrolleyPlanner p = Texts.plan("train 0 from 900 to 999;train 1 from 0 to 0;car 0 99 9 9;car 1 99 9 9;meal a 1 1;"
                + "kitchen 0;stock 0 a 999;trolley 0 99 1 5 1;job 0 0 0 a 99" + ";job 0 1 0 a 99".repeat(7));
            c.answered("finishTime(0)", p, p.finishTime(0), 1098);
            c.answered("finishTime(7)", p, p.finishTime(7), 1098 + 7 * (99 * 5 + 99 + 99));
        });
    }

    // ---- promises 21 to 24

    private static void delivered(Edges e) {
        e.test("Promise 21", "Returns the meals that all jobs deliver to a car.", c -> {
            TrolleyPlanner p = Texts.plan(FOUR + ";car 0 4 9 9");
            c.answered("delivered(0, 0, 0), two jobs", p, p.delivered(0, 0, 0), 9);
            c.answered("delivered(1, 0, 0), one job", p, p.delivered(1, 0, 0), 2);
            c.answered("delivered(0, 1, 0), no job", p, p.delivered(0, 1, 0), 0);
            c.answered("delivered(0, 0, 1), nothing to load", p, p.delivered(0, 0, 1), 0);
            p.setDeparture(0, 40);
            c.answered("delivered(0, 0, 0), only what is unloaded", p, p.delivered(0, 0, 0), 4);
            p.setStock(0, 0, 0);
            c.answered("delivered(0, 0, 0), nothing is loaded any more", p, p.delivered(0, 0, 0), 0);
        });
        carMealIndices(e, "Promise 21", TrolleyPlanner::delivered);
        e.test("Promise 21", "Returns the number of meals; FAILED on an error: 1.", c -> {
            TrolleyPlanner none = new TrolleyPlanner();
            noPlan(c, train -> none.delivered(train, 0, 0), none);
            // Eight jobs of 99 meals to one car.
            TrolleyPlanner p = Texts.plan(NEAR + ONE + ";" + ONE + ";" + ONE + ";" + ONE + ";" + ONE
                + ";job 0 0 0 a 99;job 0 0 0 a 99;job 1 0 0 a 99;job 1 0 0 a 99;job 2 0 0 a 99;job 2 0 0 a 99;"
                + "job 3 0 0 a 99;job 3 0 0 a 99");
            c.answered("eight times 99 meals", p, p.delivered(0, 0, 0), 792);
            c.answered("the fewest", p, p.delivered(1, 0, 0), 0);
        });
    }

    private static void sums(Edges e) {
        e.test("Promise 22", "Returns the sum of the meals that are unloaded for all jobs.", c -> {
            TrolleyPlanner p = Texts.plan(FOUR);
            c.answered("deliveredTotal()", p, p.deliveredTotal(), 11);
            p.setDeparture(0, 40);
            c.answered("deliveredTotal() with less time", p, p.deliveredTotal(), 6);
        });
        e.test("Promise 22", "Returns the number of meals; FAILED on an error: 1.", c -> {
            TrolleyPlanner none = new TrolleyPlanner();
            c.refused("deliveredTotal() without a plan", none, none.deliveredTotal(), 1);
            TrolleyPlanner p = Texts.plan(NEAR + ONE);
            c.answered("deliveredTotal() without jobs", p, p.deliveredTotal(), 0);
            p.addJob(0, 1, 0, 0, 99);
            c.answered("deliveredTotal()", p, p.deliveredTotal(), 99);
            p.setStock(0, 0, 0);
            c.answered("deliveredTotal() without meals", p, p.deliveredTotal(), 0);
        });
        e.test("Promise 23", "Returns the meals that all jobs of a trolley leave behind.", c -> {
            TrolleyPlanner p = Texts.plan(FAR + ONE + ";" + ONE + ";job 0 0 0 a 60;job 1 1 0 a 5;job 0 0 0 a 2;job 0 0 0 b 3");
            // Job 0 takes 50 and comes at 54, job 1 has nothing left; job 2 starts at 64 and comes too late.
            c.answered("leftBehind(0)", p, p.leftBehind(0), 46);
            c.answered("leftBehind(1), nothing to load", p, p.leftBehind(1), 0);
            p.setQuantity(0, 40);
            // Job 0 is at the door at 44, unloads 16 of its 40 until 60; job 1 brings 5; job 2 leaves both behind.
            c.answered("leftBehind(0)", p, p.leftBehind(0), 26);
            c.answered("leftBehind(1)", p, p.leftBehind(1), 0);
            p.setDeparture(1, 20);
            c.answered("leftBehind(1), all of it", p, p.leftBehind(1), 5);
        });
        trolleyIndex(e, "Promise 23", TrolleyPlanner::leftBehind);
        e.test("Promise 23", "Returns the number of meals; FAILED on an error: 1.", c -> {
            TrolleyPlanner none = new TrolleyPlanner();
            noPlan(c, none::leftBehind, none);
            TrolleyPlanner p = Texts.plan(NEAR.replace("train 0 from 0 to 999", "train 0 from 0 to 0") + ONE + ";" + ONE
                + ";job 0 0 0 a 99".repeat(8));
            c.answered("the most", p, p.leftBehind(0), 792);
            c.answered("without jobs", p, p.leftBehind(1), 0);
        });
        e.test("Promise 24", "Returns the stock of a kitchen when all jobs are finished.", c -> {
            TrolleyPlanner p = Texts.plan(FOUR);
            c.answered("finalStock(0, 0)", p, p.finalStock(0, 0), 39);
            p.setDeparture(0, 40);
            c.answered("finalStock(0, 0) with meals that came back", p, p.finalStock(0, 0), 44);
            c.answered("stock(0, 0)", p, p.stock(0, 0), 50);
            p.setDeparture(0, 10);
            p.setDeparture(1, 20);
            c.answered("finalStock(0, 0) when all came back", p, p.finalStock(0, 0), 50);
            // Each kitchen and each meal there may be; a job takes of the last one.
            TrolleyPlanner all = Texts.plan(Texts.full());
            for (int job = 0; job < 20; job++) {
                all.removeJob(0);
            }
            for (int stock = 0; stock < 12; stock++) {
                int due = 100 * (stock / 4) + stock % 4;
                c.answered("finalStock(" + stock / 4 + ", " + stock % 4 + ")", all, all.finalStock(stock / 4, stock % 4), due);
            }
            all.addJob(2, 0, 0, 3, 5);
            c.answered("loaded(0)", all, all.loaded(0), 5);
            c.answered("finalStock(2, 3)", all, all.finalStock(2, 3), 198);
            // Twenty jobs that leave a meal behind each: the last one comes back, too.
            TrolleyPlanner vain = Texts.plan("train 0 from 0 to 0;train 1 from 0 to 9;car 0 1 1 1;car 1 1 1 1;meal a 1 1;"
                + "kitchen 0;stock 0 a 9;"
                + (ONE + ";").repeat(3) + "job 0 0 0 a 1;job 1 0 0 a 1;".repeat(8) + "job 2 0 0 a 1;".repeat(3)
                + "job 2 0 0 a 1");
            c.answered("leftBehind(0)", vain, vain.leftBehind(0), 8);
            c.answered("finalStock(0, 0) when the twentieth came back", vain, vain.finalStock(0, 0), 9);
        });
        e.test("Promise 24", "- `kitchen`: index of the kitchen", c -> {
            TrolleyPlanner full = Texts.plan(Texts.full());
            c.indices("finalStock of kitchen", full, 3, k -> full.finalStock(k, 3));
            TrolleyPlanner one = Texts.plan(NEAR + ONE);
            c.indices("finalStock of kitchen", one, 1, k -> one.finalStock(k, 0));
        });
        e.test("Promise 24", "- `meal`: index of the meal", c -> {
            TrolleyPlanner full = Texts.plan(Texts.full());
            c.indices("finalStock of meal", full, 4, m -> full.finalStock(2, m));
            TrolleyPlanner one = Texts.plan(NEAR + ONE);
            c.indices("finalStock of meal", one, 1, m -> one.finalStock(0, m));
        });
        e.test("Promise 24", "Returns the number of meals; FAILED on an error: 1.", c -> {
            TrolleyPlanner none = new TrolleyPlanner();
            noPlan(c, kitchen -> none.finalStock(kitchen, 0), none);
            TrolleyPlanner p = Texts.plan(NEAR + ONE);
            c.answered("the most", p, p.finalStock(0, 0), 999);
            p.setStock(0, 0, 99);
            p.addJob(0, 0, 0, 0, 99);
            c.answered("the fewest", p, p.finalStock(0, 0), 0);
        });
    }

    // ---- promises 25 to 27

    private static void shortages(Edges e) {
        e.test("Promise 25", "Returns by how much the demand of a car for a meal is greater than what is delivered to it.", c -> {
            // The demand is 18.
            TrolleyPlanner p = Texts.plan(NEAR + ONE + ";job 0 0 0 a 17");
            c.answered("one is missing", p, p.shortage(0, 0, 0), 1);
            c.answered("all are missing", p, p.shortage(1, 0, 0), 18);
        });
        carMealIndices(e, "Promise 25", TrolleyPlanner::shortage);
        e.test("Promise 25", "Returns the difference, 0 if it is negative; FAILED on an error: 1.", c -> {
            TrolleyPlanner none = new TrolleyPlanner();
            noPlan(c, train -> none.shortage(train, 0, 0), none);
            TrolleyPlanner p = Texts.plan(NEAR + ONE + ";job 0 0 0 a 17");
            int[][] due = {{17, 1}, {18, 0}, {19, 0}, {99, 0}, {1, 17}};
            for (int[] one : due) {
                p.setQuantity(0, one[0]);
                c.answered("shortage with " + one[0], p, p.shortage(0, 0, 0), one[1]);
            }
            TrolleyPlanner most = Texts.plan(NEAR.replace("car 0 0 9 9", "car 0 0 99 99").replace("meal a 10 10",
                "meal a 20 20") + ONE);
            c.answered("the greatest", most, most.shortage(0, 0, 0), 396);
        });
    }

    private static void waits(Edges e) {
        e.test("Promise 26", "Returns the greatest number of units that a trolley waits at a door in one of its jobs", c -> {
            // Job 0 reaches the door at 7 and waits for 10; job 2 reaches it at 23.
            TrolleyPlanner p = Texts.plan(FOUR);
            c.answered("longestWait(0)", p, p.longestWait(0), 3);
            // The later job waits longer, the earlier ones not at all.
            TrolleyPlanner later = Texts.plan(FAR.replace("from 10", "from 0").replace("train 1 from 20", "train 1 from 28")
                + ONE + ";job 0 0 0 a 3;job 0 1 0 a 3;job 0 1 0 a 3");
            c.answered("longestWait(0), in the second job", later, later.longestWait(0), 7);
            // Not a sum: 1 unit and 1 unit.
            TrolleyPlanner twice = Texts.plan(FAR.replace("from 10", "from 8").replace("train 1 from 20", "train 1 from 23")
                + ONE + ";job 0 0 0 a 3;job 0 1 0 a 3");
            c.answered("longestWait(0), twice one unit", twice, twice.longestWait(0), 1);
            // A wait for the door.
            TrolleyPlanner door = Texts.plan(NEAR + ONE + ";" + ONE + ";job 0 0 0 a 5;job 1 0 0 a 6");
            c.answered("longestWait(1)", door, door.longestWait(1), 4);
            c.answered("longestWait(0)", door, door.longestWait(0), 0);
        });
        e.test("Promise 26", "Jobs without unloading do not count.", c -> {
            // The train comes at 900, and leaves at once, after 1 unit, or after 2.
            int[][] due = {{900, 0}, {901, 0}, {902, 899}};
            for (int[] one : due) {
                TrolleyPlanner p = Texts.plan(NEAR.replace("train 0 from 0 to 999", "train 0 from 900 to " + one[0])
                    + "trolley 0 99 1 1 2;job 0 0 0 a 1");
                c.answered("longestWait until " + one[0], p, p.longestWait(0), one[1]);
            }
            TrolleyPlanner none = Texts.plan(NEAR.replace("a 999", "a 0").replace("from 0", "from 900") + ONE + ";job 0 0 0 a 1");
            c.answered("longestWait without meals", none, none.longestWait(0), 0);
            none.setStock(0, 0, 1);
            c.answered("longestWait with a meal", none, none.longestWait(0), 899);
            none.setStock(0, 0, 0);
            c.answered("longestWait without meals again", none, none.longestWait(0), 0);
        });
        trolleyIndex(e, "Promise 26", TrolleyPlanner::longestWait);
        e.test("Promise 26", "Returns the time, 0 if there is no such job; FAILED on an error: 1.", c -> {
            TrolleyPlanner none = new TrolleyPlanner();
            noPlan(c, none::longestWait, none);
            TrolleyPlanner p = Texts.plan(NEAR + ONE);
            c.answered("longestWait without jobs", p, p.longestWait(0), 0);
            TrolleyPlanner most = Texts.plan(NEAR.replace("train 0 from 0", "train 0 from 900") + ONE + ";job 0 0 0 a 1");
            c.answered("the greatest", most, most.longestWait(0), 899);
        });
    }

    private static void busyDoors(Edges e) {
        e.test("Promise 27", "Returns for how many units the door of a car is occupied by unloading, in all jobs", c -> {
            TrolleyPlanner p = Texts.plan(FOUR + ";trolley 0 99 1 1 5;job 1 1 0 a 2");
            c.answered("doorBusy(0, 0)", p, p.doorBusy(0, 0), 9);
            c.answered("doorBusy(1, 0)", p, p.doorBusy(1, 0), 12);
            // Job 2 has to wait for the door until 30, so that job 3 reaches its door at 46.
            p.setDeparture(0, 47);
            c.answered("doorBusy(0, 0), less is unloaded", p, p.doorBusy(0, 0), 4);
            p.setStock(0, 0, 0);
            c.answered("doorBusy(0, 0), nothing is loaded any more", p, p.doorBusy(0, 0), 0);
        });
        e.test("Promise 27", "- `train`: 0 or 1", c -> {
            TrolleyPlanner full = Texts.plan(Texts.full());
            c.indices("doorBusy of train", full, 2, t -> full.doorBusy(t, 4));
        });
        e.test("Promise 27", "- `car`: index of the car", c -> {
            for (int train = 0; train < 2; train++) {
                final int t = train;
                TrolleyPlanner more = Texts.plan(FAR + ONE + (";car " + train + " 4 1 1").repeat(4));
                c.indices("doorBusy of car", more, 5, car -> more.doorBusy(t, car));
                c.indices("doorBusy of car", more, 1, car -> more.doorBusy(1 - t, car));
            }
        });
        e.test("Promise 27", "Returns the time; FAILED on an error: 1.", c -> {
            TrolleyPlanner none = new TrolleyPlanner();
            noPlan(c, train -> none.doorBusy(train, 0), none);
            TrolleyPlanner p = Texts.plan(NEAR + "trolley 0 99 1 1 5;trolley 0 99 1 1 5;job 0 0 0 a 99;job 1 0 0 a 99");
            // 495 units from 99 on, then 81 meals until 999.
            c.answered("the most", p, p.doorBusy(0, 0), 495 + 405);
            c.answered("the fewest", p, p.doorBusy(1, 0), 0);
        });
    }

    // ---- promises 28 and 29

    private static void doing(Checks c, TrolleyPlanner p, int trolley, int[]... timesAndStates) {
        for (int[] one : timesAndStates) {
            c.answered("stateAt(" + trolley + ", " + one[0] + ")", p, p.stateAt(trolley, one[0]), one[1]);
        }
    }

    private static void states(Edges e) {
        e.test("Promise 28", "Returns what a trolley does from a time on", c -> {
            TrolleyPlanner p = Texts.plan(FOUR);
            doing(c, p, 0, new int[][] {{0, 1}, {2, 1}, {3, 2}, {6, 2}, {7, 3}, {9, 3}, {10, 4}, {12, 4}, {13, 5}, {16, 5},
                {17, 1}, {18, 1}, {19, 2}, {22, 2}, {23, 4}, {24, 4}, {25, 5}, {28, 5}, {29, 1}, {34, 1}, {35, 2}, {38, 2},
                {39, 4}, {44, 4}, {45, 5}, {48, 5}, {49, 0}, {50, 0}, {9999, 0}});
            // Walking back in vain comes right behind the walk to the door, without a wait.
            p.setDeparture(0, 10);
            doing(c, p, 0, new int[][] {{6, 2}, {7, 5}, {10, 5}, {11, 1}});
        });
        e.test("Promise 28", "Activities that take no time are not considered", c -> {
            // No walk, no wait.
            TrolleyPlanner p = Texts.plan(NEAR + ONE + ";job 0 0 0 a 2;job 0 0 0 a 1");
            doing(c, p, 0, new int[][] {{0, 1}, {1, 1}, {2, 4}, {3, 4}, {4, 1}, {5, 4}, {6, 0}});
            // No walk, no unloading, no walk back: one loading behind the other.
            TrolleyPlanner vain = Texts.plan(NEAR.replace("0 to 999", "0 to 0") + ONE + ";job 0 0 0 a 2;job 0 0 0 a 1");
            doing(c, vain, 0, new int[][] {{0, 1}, {1, 1}, {2, 1}, {3, 0}});
            // No walk, a wait.
            TrolleyPlanner wait = Texts.plan(NEAR.replace("train 0 from 0", "train 0 from 3") + ONE + ";job 0 0 0 a 2");
            doing(c, wait, 0, new int[][] {{1, 1}, {2, 3}, {3, 4}, {4, 4}, {5, 0}});
            // Jobs without meals, first, between and last.
            TrolleyPlanner some = Texts.plan(NEAR + "meal b 1 1;" + ONE
                + ";job 0 0 0 b 1;job 0 0 0 a 1;job 0 0 0 b 1;job 0 0 0 a 1;job 0 0 0 b 1");
            doing(c, some, 0, new int[][] {{0, 1}, {1, 4}, {2, 1}, {3, 4}, {4, 0}});
            TrolleyPlanner none = Texts.plan(NEAR.replace("a 999", "a 0") + ONE + ";job 0 0 0 a 1");
            doing(c, none, 0, new int[][] {{0, 0}});
        });
        trolleyIndex(e, "Promise 28", (p, trolley) -> p.stateAt(trolley, 9999));
        timeIndex(e, "Promise 28", (p, time) -> p.stateAt(0, time));
        e.test("Promise 28", "Returns 0 to 5; FAILED on an error: 1 for trolley; 2 for time.", c -> {
            TrolleyPlanner none = new TrolleyPlanner();
            noPlan(c, trolley -> none.stateAt(trolley, 0), none);
            c.refused("stateAt(0, -1) without a plan", none, none.stateAt(0, -1), 1);
            TrolleyPlanner p = Texts.plan(FOUR);
            for (int time : new int[] {-1, 10000, Integer.MIN_VALUE, Integer.MAX_VALUE}) {
                c.refused("stateAt(1, " + time + ")", p, p.stateAt(1, time), 1);
                c.refused("stateAt(-1, " + time + ")", p, p.stateAt(-1, time), 1);
                c.refused("stateAt(0, " + time + ")", p, p.stateAt(0, time), 2);
            }
            doing(c, p, 0, new int[][] {{0, 1}, {3, 2}, {7, 3}, {10, 4}, {13, 5}, {49, 0}});
            TrolleyPlanner idle = Texts.plan(NEAR + ONE);
            doing(c, idle, 0, new int[][] {{0, 0}, {9999, 0}});
        });
    }

    private static void aboard(Checks c, TrolleyPlanner p, int[]... timesAndMeals) {
        for (int[] one : timesAndMeals) {
            c.answered("mealsOn(0, " + one[0] + ")", p, p.mealsOn(0, one[0]), one[1]);
        }
    }

    private static void mealsOnTrolleys(Edges e) {
        e.test("Promise 29", "Returns how many meals are on a trolley at a time.", c -> {
            TrolleyPlanner p = Texts.plan(FOUR);
            // Walking, waiting, walking back empty; the second job starts at 17, the last one at 29.
            aboard(c, p, new int[][] {{3, 3}, {6, 3}, {7, 3}, {9, 3}, {10, 3}, {13, 0}, {16, 0}, {17, 0}, {19, 2}, {23, 2},
                {28, 0}, {35, 6}});
            p.setDeparture(0, 41);
            // Two of six are unloaded from 39 on, and four come back until 45.
            aboard(c, p, new int[][] {{38, 6}, {39, 6}, {40, 5}, {41, 4}, {44, 4}, {45, 0}});
            p.setDeparture(0, 39);
            aboard(c, p, new int[][] {{39, 6}, {42, 6}, {43, 0}});
        });
        e.test("Promise 29", "While it loads, these are the meals that are loaded completely by then; while it unloads", c -> {
            // 3 meals, 4 units each until 12; a walk until 16; 5 units each until 31; a walk until 35.
            TrolleyPlanner p = Texts.plan(FAR + "trolley 0 99 1 4 5;job 0 0 0 a 3");
            aboard(c, p, new int[][] {{0, 0}, {3, 0}, {4, 1}, {7, 1}, {8, 2}, {11, 2}, {12, 3}, {15, 3}, {16, 3}, {20, 3},
                {21, 2}, {25, 2}, {26, 1}, {30, 1}, {31, 0}, {34, 0}, {35, 0}});
            TrolleyPlanner quick = Texts.plan(NEAR + ONE + ";job 0 0 0 a 2");
            aboard(c, quick, new int[][] {{0, 0}, {1, 1}, {2, 2}, {3, 1}, {4, 0}});
        });
        trolleyIndex(e, "Promise 29", (p, trolley) -> p.mealsOn(trolley, 9999));
        timeIndex(e, "Promise 29", (p, time) -> p.mealsOn(0, time));
        e.test("Promise 29", "Returns the number of meals, 0 when all its jobs are finished; FAILED on an error: 1 for", c -> {
            TrolleyPlanner none = new TrolleyPlanner();
            noPlan(c, trolley -> none.mealsOn(trolley, 0), none);
            c.refused("mealsOn(0, -1) without a plan", none, none.mealsOn(0, -1), 1);
            TrolleyPlanner p = Texts.plan(FOUR);
            for (int time : new int[] {-1, 10000, Integer.MIN_VALUE, Integer.MAX_VALUE}) {
                c.refused("mealsOn(1, " + time + ")", p, p.mealsOn(1, time), 1);
                c.refused("mealsOn(-1, " + time + ")", p, p.mealsOn(-1, time), 1);
                c.refused("mealsOn(0, " + time + ")", p, p.mealsOn(0, time), 2);
            }
            aboard(c, p, new int[][] {{48, 0}, {49, 0}, {9999, 0}});
            TrolleyPlanner vain = Texts.plan(NEAR.replace("0 to 999", "0 to 0") + ONE + ";job 0 0 0 a 99");
            aboard(c, vain, new int[][] {{98, 98}, {99, 0}, {9999, 0}});
            TrolleyPlanner most = Texts.plan(NEAR + ONE + ";job 0 0 0 a 99");
            aboard(c, most, new int[][] {{98, 98}, {99, 99}, {100, 98}, {197, 1}, {198, 0}});
            TrolleyPlanner idle = Texts.plan(NEAR + ONE);
            aboard(c, idle, new int[][] {{0, 0}, {9999, 0}});
        });
    }

    private SimulationAnswersEdges() {
    }
}
