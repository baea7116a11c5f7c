import java.util.function.ToIntBiFunction;

/** The edges of section 5 and of promises 36 to 39: best sets of jobs. */
final class BestSetEdges {
    /** The doors are at the kitchen: a job of q meals takes 2 q units. Train 0 leaves at 20, train 1 at 10. */
    private static final String NEAR = "train 0 from 0 to 20;train 1 from 0 to 10;car 0 0 1 0;car 1 0 1 0;meal a 10 0;meal b 1 1;"
        + "kitchen 0;trolley 0 9 1 1 1;trolley 0 9 1 1 1";

    static void tell(Edges e) {
        alone(e);
        theBest(e);
        answers(e);
        leastSpeed(e);
    }

    // ---- what the tests below share

    private static void best(Checks c, String text, int trolley, int set, int meals, int... order) {
        TrolleyPlanner p = Texts.plan(text);
        c.answered("bestSet", p, p.bestSet(trolley), set);
        c.answered("bestMeals", p, p.bestMeals(trolley), meals);
        for (int place = 0; place < order.length; place++) {
            c.answered("bestOrder at " + place, p, p.bestOrder(trolley, place), order[place]);
        }
        c.refused("bestOrder at " + order.length, p, p.bestOrder(trolley, order.length), 6);
    }

    private static void trolleyIndex(Edges e, String part, ToIntBiFunction<TrolleyPlanner, Integer> call) {
        e.test(part, "- `trolley`: index of the trolley", c -> {
            TrolleyPlanner p = Texts.plan(NEAR + ";trolley 0 9 1 1 1".repeat(3) + ";job 0 0 0 a 1;job 4 0 0 a 1");
            c.indices("trolley of five", p, 5, trolley -> call.applyAsInt(p, trolley));
            TrolleyPlanner one = Texts.plan(NEAR.replace(";trolley 0 9 1 1 1;trolley 0 9 1 1 1", ";trolley 0 9 1 1 1")
                + ";job 0 0 0 a 1");
            c.indices("trolley of one", one, 1, trolley -> call.applyAsInt(one, trolley));
            TrolleyPlanner none = new TrolleyPlanner();
            c.indices("trolley without a plan", none, 0, trolley -> call.applyAsInt(none, trolley));
        });
    }

    // ---- section 5

    private static void alone(Edges e) {
        e.test("Section 5", "A trolley can do a set of its jobs alone if there is an order of these jobs such that", c -> {
            // 10 meals until 20, and not 11; train 1 until 10.
            best(c, NEAR + ";job 0 0 0 a 5;job 0 0 0 a 5", 0, 3, 10, 0, 1);
            best(c, NEAR + ";job 0 0 0 a 5;job 0 0 0 a 6", 0, 2, 6, 1);
            best(c, NEAR + ";job 0 1 0 a 5", 0, 1, 5, 0);
            best(c, NEAR + ";job 0 1 0 a 6", 0, 0, 0);
            // There is an order, but only one: train 1 first.
            best(c, NEAR + ";job 0 0 0 a 5;job 0 1 0 a 5", 0, 3, 10, 1, 0);
            best(c, NEAR + ";job 0 1 0 a 5;job 0 0 0 a 5", 0, 3, 10, 0, 1);
            // The stock is nothing, the other trolley is in the way: both count for nothing here.
            best(c, NEAR + ";stock 0 a 0;job 1 1 0 a 5;job 0 1 0 a 5", 0, 1, 5, 1);
            best(c, NEAR + ";stock 0 a 99;job 1 1 0 a 5;job 0 1 0 a 5", 1, 1, 5, 0);
            // A meal that is left behind is one too many; 1 unit is enough for none.
            best(c, NEAR.replace("0 to 20", "0 to 1"), 0, 0, 0);
            best(c, NEAR.replace("0 to 20", "0 to 1") + ";job 0 0 0 a 1", 0, 0, 0);
            best(c, NEAR.replace("0 to 20", "0 to 2") + ";job 0 0 0 a 1", 0, 1, 1, 0);
            best(c, NEAR.replace("0 to 20", "0 to 2") + ";job 0 0 0 a 2", 0, 0, 0);
            best(c, NEAR.replace("0 to 20", "0 to 0") + ";job 0 0 0 a 1", 0, 0, 0);
            // The walk back counts for the next job, but not behind the last one; the arrival has to be awaited.
            String far = NEAR.replace("car 0 0", "car 0 3").replace("car 1 0", "car 1 3");
            best(c, far.replace("0 to 20", "0 to 5") + ";job 0 0 0 a 1", 0, 1, 1, 0);
            best(c, far.replace("0 to 20", "0 to 4") + ";job 0 0 0 a 1", 0, 0, 0);
            best(c, far.replace("0 to 20", "0 to 13") + ";job 0 0 0 a 1;job 0 0 0 a 1", 0, 3, 2, 0, 1);
            best(c, far.replace("0 to 20", "0 to 12") + ";job 0 0 0 a 1;job 0 0 0 a 1", 0, 1, 1, 0);
            best(c, far.replace("0 to 20", "15 to 16") + ";job 0 0 0 a 1", 0, 1, 1, 0);
            best(c, far.replace("0 to 20", "15 to 15") + ";job 0 0 0 a 1", 0, 0, 0);
            best(c, far.replace("train 0 from 0 to 20", "train 0 from 5 to 7").replace("train 1 from 0 to 10",
                "train 1 from 7 to 14") + ";job 0 0 0 a 1;job 0 1 0 a 1", 0, 3, 2, 0, 1);
            best(c, far.replace("train 0 from 0 to 20", "train 0 from 5 to 7").replace("train 1 from 0 to 10",
                "train 1 from 7 to 13") + ";job 0 0 0 a 1;job 0 1 0 a 1", 0, 1, 1, 0);
            // The last car of train 0 and the first one of train 1: each has the times of its own train.
            String cars = NEAR.replace("car 1 0 1 0", "car 0 0 1 0;".repeat(4) + "car 1 0 1 0;".repeat(4) + "car 1 0 1 0")
                .replace("train 1 from 0", "train 1 from 3");
            for (int car = 0; car < 5; car++) {
                best(c, cars + ";job 0 0 " + car + " a 9", 0, 1, 9, 0);
                best(c, cars + ";job 0 0 " + car + " a 1;job 0 0 " + car + " a 9", 0, 3, 10, 0, 1);
                best(c, cars + ";job 0 1 " + car + " a 5", 0, 1, 5, 0);
                best(c, cars + ";job 0 1 " + car + " a 6", 0, 0, 0);
                // 1 meal, with a wait until 3, ends at 4, and then 4 meals at 12; 4 meals end at 8, and then 1 at 10.
                best(c, cars + ";job 0 1 " + car + " a 1;job 0 1 " + car + " a 4", 0, 3, 5, 1, 0);
            }
            // The latest times there are.
            best(c, far.replace("0 to 20", "900 to 999") + ";job 0 0 0 a 9", 0, 1, 9, 0);
            best(c, far.replace("0 to 20", "900 to 909") + ";job 0 0 0 a 9", 0, 1, 9, 0);
            best(c, far.replace("0 to 20", "900 to 908") + ";job 0 0 0 a 9", 0, 0, 0);
        });
        e.test("Section 5", "(A job with a QUANTITY above the CAPACITY is done with CAPACITY meals.)", c -> {
            best(c, NEAR + ";job 0 0 0 a 8", 0, 1, 8, 0);
            best(c, NEAR + ";job 0 0 0 a 9", 0, 1, 9, 0);
            best(c, NEAR + ";job 0 0 0 a 10", 0, 1, 9, 0);
            best(c, NEAR + ";job 0 0 0 a 99", 0, 1, 9, 0);
            best(c, NEAR.replace("0 to 20", "0 to 18") + ";job 0 0 0 a 10", 0, 1, 9, 0);
            best(c, NEAR.replace("0 to 20", "0 to 17") + ";job 0 0 0 a 10", 0, 0, 0);
            best(c, NEAR.replace("trolley 0 9", "trolley 0 1") + ";job 0 0 0 a 99;job 0 0 0 a 2;job 0 0 0 a 1", 0, 7, 3, 0, 1, 2);
        });
    }

    private static void theBest(Edges e) {
        e.test("Section 5", "The best set of a trolley is the one that delivers the most meals", c -> {
            // The most meals, with fewer jobs; then equal ones: the smallest as a bit set.
            best(c, NEAR + ";job 0 0 0 a 1;job 0 0 0 a 2;job 0 0 0 a 9", 0, 5, 10, 0, 2);
            best(c, NEAR + ";job 0 0 0 a 2;job 0 0 0 a 2;job 0 0 0 a 9", 0, 4, 9, 2);
            best(c, NEAR + ";job 0 0 0 a 9;job 0 0 0 a 4;job 0 0 0 a 5", 0, 1, 9, 0);
            best(c, NEAR + ";job 0 0 0 a 4;job 0 0 0 a 5;job 0 0 0 a 9", 0, 3, 9, 0, 1);
            best(c, NEAR + ";job 0 0 0 a 8;job 0 0 0 a 8;job 0 0 0 a 8", 0, 1, 8, 0);
            best(c, NEAR + ";job 0 0 0 a 7;job 0 0 0 a 3;job 0 0 0 a 4;job 0 0 0 a 6", 0, 3, 10, 0, 1);
            best(c, NEAR + ";job 0 0 0 a 7;job 0 0 0 a 6;job 0 0 0 a 4;job 0 0 0 a 3", 0, 6, 10, 1, 2);
            // The bits are those of the trolley's own jobs, in the order of their numbers.
            best(c, NEAR + ";job 1 0 0 a 1;job 0 0 0 a 8;job 1 0 0 a 1;job 0 0 0 a 9;job 1 0 0 a 1", 0, 2, 9, 3);
            best(c, NEAR + ";job 1 0 0 a 1;job 0 0 0 a 8;job 1 0 0 a 1;job 0 0 0 a 9;job 1 0 0 a 1", 1, 7, 3, 0, 2, 4);
            // Eight jobs: bit 7 alone, and all bits.
            String eight = NEAR.replace("0 to 20", "0 to 72") + Texts.eightJobs(0, 0);
            best(c, eight, 0, 255, 36, 0, 1, 2, 3, 4, 5, 6, 7);
            best(c, eight.replace("0 to 72", "0 to 70"), 0, 254, 35, 1, 2, 3, 4, 5, 6, 7);
            best(c, eight.replace("trolley 0 9", "trolley 0 1").replace("0 to 72", "0 to 15"), 0, 127, 7, 0, 1, 2, 3, 4, 5, 6);
            best(c, NEAR.replace("0 to 20", "0 to 0") + ";job 0 0 0 a 1".repeat(7) + ";job 0 1 0 a 5", 0, 128, 5, 7);
        });
        e.test("Section 5", "The empty set is allowed.", c -> {
            best(c, NEAR, 0, 0, 0);
            best(c, NEAR + ";job 1 0 0 a 1", 0, 0, 0);
            best(c, NEAR.replace("0 to 20", "0 to 1").replace("0 to 10", "0 to 1") + ";job 0 0 0 a 1;job 0 1 0 a 1", 0, 0, 0);
            best(c, NEAR.replace("0 to 20", "0 to 1").replace("0 to 10", "0 to 1") + Texts.eightJobs(1, 0), 1, 0, 0);
        });
        e.test("Section 5", "Its order is the lexicographically smallest one (by job numbers) with which the trolley can", c -> {
            // All orders are good; then job 1 has to come before 5, 4, 3 units of the others.
            best(c, NEAR + ";job 0 0 0 a 2;job 0 0 0 a 3;job 0 0 0 a 4", 0, 7, 9, 0, 1, 2);
            best(c, NEAR + ";job 0 0 0 a 2;job 0 1 0 a 3;job 0 0 0 a 4", 0, 7, 9, 0, 1, 2);
            best(c, NEAR + ";job 0 0 0 a 2;job 0 1 0 a 4;job 0 0 0 a 4", 0, 7, 10, 1, 0, 2);
            best(c, NEAR + ";job 0 0 0 a 2;job 0 0 0 a 3;job 0 1 0 a 3", 0, 7, 8, 0, 2, 1);
            best(c, NEAR + ";job 0 0 0 a 3;job 0 0 0 a 2;job 0 1 0 a 3", 0, 7, 8, 1, 2, 0);
            best(c, NEAR + ";job 0 0 0 a 3;job 0 0 0 a 3;job 0 1 0 a 3", 0, 7, 9, 2, 0, 1);
            // Job 1 could be done before job 2 from 0 on, but no more when job 0 is done, at 4, 5 or 3.
            best(c, NEAR + ";job 0 0 0 a 2;job 0 0 0 a 2;job 0 1 0 a 2", 0, 7, 6, 0, 2, 1);
            best(c, NEAR + ";job 0 0 0 a 1;job 0 0 0 a 2;job 0 1 0 a 2", 0, 7, 5, 0, 1, 2);
            best(c, NEAR.replace("train 0 from 0", "train 0 from 4") + ";job 0 0 0 a 1;job 0 0 0 a 1;job 0 1 0 a 2", 0, 7, 4,
                0, 2, 1);
            best(c, NEAR.replace("train 0 from 0", "train 0 from 3") + ";job 0 0 0 a 1;job 0 0 0 a 1;job 0 1 0 a 2", 0, 7, 4,
                0, 1, 2);
            String walk = NEAR.replace("car 0 0", "car 0 1").replace("car 1 0", "car 1 1");
            best(c, walk.replace("0 to 10", "0 to 13") + ";job 0 0 0 a 1;job 0 0 0 a 1;job 0 1 0 a 2", 0, 7, 4, 0, 1, 2);
            best(c, walk.replace("0 to 10", "0 to 12") + ";job 0 0 0 a 1;job 0 0 0 a 1;job 0 1 0 a 2", 0, 7, 4, 0, 2, 1);
            String slow = NEAR.replace("trolley 0 9 1 1 1", "trolley 0 9 1 2 1");
            best(c, slow.replace("0 to 10", "0 to 12") + ";job 0 0 0 a 1;job 0 0 0 a 1;job 0 1 0 a 2", 0, 7, 4, 0, 1, 2);
            best(c, slow.replace("0 to 10", "0 to 11") + ";job 0 0 0 a 1;job 0 0 0 a 1;job 0 1 0 a 2", 0, 7, 4, 0, 2, 1);
            // By job numbers, also where jobs of other trolleys stand between.
            best(c, NEAR + ";job 1 0 0 a 9;job 0 0 0 a 2;job 1 0 0 a 9;job 0 1 0 a 4;job 0 0 0 a 4", 0, 7, 10, 3, 1, 4);
            // Eight jobs, the last of which has to be the first.
            best(c, NEAR.replace("0 to 10", "0 to 2") + ";job 0 0 0 a 1".repeat(7) + ";job 0 1 0 a 1", 0, 255, 8, 7, 0, 1, 2,
                3, 4, 5, 6);
        });
    }

    // ---- promises 36 to 38

    private static void answers(Edges e) {
        e.test("Promise 36", "Returns the best set of a trolley (section 5).", c -> {
            TrolleyPlanner p = Texts.plan(NEAR + ";job 1 0 0 a 5;job 0 0 0 a 9;job 1 1 0 a 6;job 1 1 0 a 5");
            c.answered("bestSet(0)", p, p.bestSet(0), 1);
            c.answered("bestSet(1)", p, p.bestSet(1), 5);
            p.setDeparture(0, 19);
            c.answered("bestSet(1) with less time", p, p.bestSet(1), 1);
            // Each question is answered for itself: what one trolley can do, or could before, is not what another one can.
            TrolleyPlanner other = Texts.plan(NEAR.replace("0 to 20", "0 to 999") + Texts.eightJobs(0, 0)
                + Texts.eightJobs(1, 1));
            for (int round = 0; round < 2; round++) {
                c.answered("bestSet(0), all", other, other.bestSet(0), 255);
                c.answered("bestSet(1), those of 2 and 3 meals", other, other.bestSet(1), 6);
            }
            other.setDeparture(0, 0);
            c.answered("bestSet(0), none", other, other.bestSet(0), 0);
            other.setDeparture(1, 2);
            c.answered("bestSet(1), that of 1 meal", other, other.bestSet(1), 1);
        });
        trolleyIndex(e, "Promise 36", TrolleyPlanner::bestSet);
        e.test("Promise 36", "Returns a bit set (bit k for the k-th job of the trolley); FAILED on an error: 1.", c -> {
            TrolleyPlanner p = Texts.plan(NEAR.replace("0 to 20", "0 to 999") + Texts.eightJobs(0, 0));
            c.answered("all bits", p, p.bestSet(0), 255);
            c.answered("no bits", p, p.bestSet(1), 0);
            TrolleyPlanner none = new TrolleyPlanner();
            c.refused("bestSet(0) without a plan", none, none.bestSet(0), 1);
        });
        e.test("Promise 37", "Returns how many meals the best set of a trolley delivers.", c -> {
            TrolleyPlanner p = Texts.plan(NEAR + ";job 1 0 0 a 5;job 0 0 0 a 9;job 1 1 0 a 6;job 1 1 0 a 5");
            c.answered("bestMeals(0)", p, p.bestMeals(0), 9);
            c.answered("bestMeals(1)", p, p.bestMeals(1), 10);
            p.setQuantity(1, 99);
            c.answered("bestMeals(0) with the capacity", p, p.bestMeals(0), 9);
        });
        trolleyIndex(e, "Promise 37", TrolleyPlanner::bestMeals);
        e.test("Promise 37", "Returns the number of meals; FAILED on an error: 1.", c -> {
            TrolleyPlanner p = Texts.plan(NEAR.replace("0 to 20", "0 to 999").replace("trolley 0 9", "trolley 0 99")
                + ";job 0 0 0 a 99".repeat(8));
            // 198 units each: five of the eight until 999.
            c.answered("the most meals until 999", p, p.bestMeals(0), 495);
            c.answered("no meals", p, p.bestMeals(1), 0);
            TrolleyPlanner none = new TrolleyPlanner();
            c.refused("bestMeals(0) without a plan", none, none.bestMeals(0), 1);
        });
        e.test("Promise 38", "Returns a job of the order of the best set of a trolley.", c -> {
            TrolleyPlanner p = Texts.plan(NEAR + ";job 1 0 0 a 5;job 0 0 0 a 9;job 1 1 0 a 6;job 1 1 0 a 5");
            c.answered("bestOrder(0, 0)", p, p.bestOrder(0, 0), 1);
            c.answered("bestOrder(1, 0)", p, p.bestOrder(1, 0), 3);
            c.answered("bestOrder(1, 1)", p, p.bestOrder(1, 1), 0);
        });
        trolleyIndex(e, "Promise 38", (p, trolley) -> p.bestOrder(trolley, 0));
        e.test("Promise 38", "- `place`: from 0", c -> {
            TrolleyPlanner p = Texts.plan(NEAR.replace("0 to 20", "0 to 999") + Texts.eightJobs(0, 0));
            c.answered("the first place", p, p.bestOrder(0, 0), 0);
            c.answered("the last place of eight", p, p.bestOrder(0, 7), 7);
            for (int place : new int[] {-1, 8, 9, 20, 1 << 30, Integer.MIN_VALUE, Integer.MAX_VALUE}) {
                c.refused("bestOrder(0, " + place + ")", p, p.bestOrder(0, place), 6);
                c.refused("bestOrder(1, " + place + ")", p, p.bestOrder(1, place), 6);
            }
        });
        e.test("Promise 38", "Returns the index of the job; FAILED on an error: 1; 6 if there is no such place.", c -> {
            TrolleyPlanner p = Texts.plan(NEAR + ";job 0 0 0 a 8;job 0 0 0 a 8");
            c.answered("bestOrder(0, 0)", p, p.bestOrder(0, 0), 0);
            c.refused("bestOrder(0, 1), a job that is not in the set", p, p.bestOrder(0, 1), 6);
            c.refused("bestOrder(0, -1)", p, p.bestOrder(0, -1), 6);
            c.refused("bestOrder(1, 0), the empty set", p, p.bestOrder(1, 0), 6);
            c.refused("bestOrder(2, -1), neither", p, p.bestOrder(2, -1), 1);
            c.refused("bestOrder(-1, 9), neither", p, p.bestOrder(-1, 9), 1);
            TrolleyPlanner none = new TrolleyPlanner();
            c.refused("bestOrder(0, -1) without a plan", none, none.bestOrder(0, -1), 1);
            TrolleyPlanner last = Texts.plan(NEAR + ";trolley 0 9 1 1 1" + Texts.eightJobs(0, 0) + Texts.eightJobs(1, 0)
                + ";job 2 0 0 a 8".repeat(3) + ";job 2 0 0 a 9");
            c.answered("the greatest index", last, last.bestOrder(2, 0), 19);
        });
    }

    // ---- promise 39

    private static void leastSpeed(Edges e) {
        // One meal over a way of 72, there before train 0 leaves: 1 + 72 / SPEED rounded up + 1.
        String far = "train 0 from 0 to 10;train 1 from 0 to 999;car 0 72 1 0;car 1 99 1 0;meal a 10 0;kitchen 0;"
            + "trolley 0 9 5 1 1;trolley 0 9 5 1 1";
        e.test("Promise 39", "Returns the smallest SPEED with which a trolley could do all its jobs alone (section 5).", c -> {
            int[] latest = {74, 38, 26, 20, 17, 14, 13, 11, 10};
            for (int speed = 1; speed <= 9; speed++) {
                TrolleyPlanner p = Texts.plan(far.replace("0 to 10", "0 to " + latest[speed - 1]) + ";job 0 0 0 a 1");
                c.answered("leastSpeed until " + latest[speed - 1], p, p.leastSpeed(0), speed);
                p.setDeparture(0, latest[speed - 1] - 1);
                if (speed < 9) {
                    c.answered("leastSpeed until " + (latest[speed - 1] - 1), p, p.leastSpeed(0), speed + 1);
                } else {
                    c.refused("leastSpeed until " + (latest[speed - 1] - 1), p, p.leastSpeed(0), 6);
                }
            }
            // All its jobs, in the best order; those of others and the stock count for nothing.
            TrolleyPlanner p = Texts.plan(far.replace("0 to 10", "0 to 74")
                + ";job 0 1 0 a 1;job 1 0 0 a 9;job 0 0 0 a 1;job 1 0 0 a 9");
            c.answered("leastSpeed(0), the second job first", p, p.leastSpeed(0), 1);
            c.answered("leastSpeed(1), twice", p, p.leastSpeed(1), 6);
            p.setDeparture(1, 100);
            // At 2 for the first one: 38 + 36, then 1 + 50 + 1 until 126; at 3: 26 + 24 + 1 + 33 + 1 = 85.
            c.answered("leastSpeed(0) with less time", p, p.leastSpeed(0), 3);
        });
        trolleyIndex(e, "Promise 39", TrolleyPlanner::leastSpeed);
        e.test("Promise 39", "Returns 1 to 9; FAILED on an error: 1; 6 if there is none.", c -> {
            TrolleyPlanner p = Texts.plan(far + ";job 0 0 0 a 1");
            c.answered("the greatest speed", p, p.leastSpeed(0), 9);
            c.answered("the least speed, without jobs", p, p.leastSpeed(1), 1);
            p.setDeparture(0, 9);
            c.refused("none", p, p.leastSpeed(0), 6);
            c.refused("no such trolley", p, p.leastSpeed(2), 1);
            TrolleyPlanner none = new TrolleyPlanner();
            c.refused("leastSpeed(0) without a plan", none, none.leastSpeed(0), 1);
            // 10 would be enough for a way of 90.
            TrolleyPlanner ten = Texts.plan(far.replace("car 0 72", "car 0 90").replace("0 to 10", "0 to 11") + ";job 0 0 0 a 1");
            c.refused("more than 9", ten, ten.leastSpeed(0), 6);
            ten.setDeparture(0, 12);
            c.answered("9 for the same way", ten, ten.leastSpeed(0), 9);
            // No speed helps where the loading takes too long.
            TrolleyPlanner slow = Texts.plan(NEAR + ";job 0 1 0 a 6");
            c.refused("none, beside the kitchen", slow, slow.leastSpeed(0), 6);
        });
    }

    private BestSetEdges() {
    }
}
