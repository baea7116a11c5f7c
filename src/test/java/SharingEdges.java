/** The edges of section 4 and of promises 30 to 35: sharing out. Every door is at the kitchen: each job delivers its quantity. */
final class SharingEdges {
    private static final String TRAINS = "train 0 from 0 to 999;train 1 from 0 to 999";
    private static final String REST = ";kitchen 0;stock 0 a 999;stock 0 b 999;trolley 0 99 1 1 1";

    static void tell(Edges e) {
        shares(e);
        coverageOfATrain(e);
        share(e);
        carried(e);
        jointShare(e);
        coverage(e);
        leastCoverage(e);
        betterServed(e);
    }

    // ---- what the tests below share

    /**
     * Cars with these demands for meal a, of train 0 and of train 1, and a job of that many meals (if any) to the first car
     * of each.
     * Meal b has no demand.
     */
    private static TrolleyPlanner plan(int[] demands0, int meals0, int[] demands1, int meals1) {
        StringBuilder text = new StringBuilder(TRAINS);
        for (int demand : demands0) {
            text.append(";car 0 0 ").append(demand).append(" 0");
        }
        for (int demand : demands1) {
            text.append(";car 1 0 ").append(demand).append(" 0");
        }
        text.append(";meal a 10 0;meal b 0 0").append(REST);
        job(text, 0, meals0);
        job(text, 1, meals1);
        return Texts.plan(text.toString());
    }

    private static void job(StringBuilder text, int train, int meals) {
        if (meals > 0) {
            text.append(";job 0 ").append(train).append(" 0 a ").append(meals);
        }
    }

    private static int[] of(int... numbers) {
        return numbers;
    }

    private static void shared(Checks c, int[] demands, int meals, int... due) {
        TrolleyPlanner p = plan(demands, meals, of(1), 0);
        for (int car = 0; car < due.length; car++) {
            c.answered("share of car " + car + " of " + meals + " meals", p, p.share(0, car, 0), due[car]);
        }
    }

    private static void joint(Checks c, TrolleyPlanner p, int[] due0, int[] due1) {
        for (int car = 0; car < due0.length; car++) {
            c.answered("jointShare(0, " + car + ", 0)", p, p.jointShare(0, car, 0), due0[car]);
        }
        for (int car = 0; car < due1.length; car++) {
            c.answered("jointShare(1, " + car + ", 0)", p, p.jointShare(1, car, 0), due1[car]);
        }
    }

    private static void covered(Checks c, TrolleyPlanner p, int train, int meal, long above, long below) {
        c.answered("coverage(" + train + ", " + meal + ", false)", p, p.coverage(train, meal, false), above);
        c.answered("coverage(" + train + ", " + meal + ", true)", p, p.coverage(train, meal, true), below);
    }

    private interface Asks {
        long of(TrolleyPlanner p, int train, int car, int meal);
    }

    private static void trainIndex(Edges e, String part, long failed, Asks call) {
        e.test(part, "- `train`: 0 or 1", c -> {
            TrolleyPlanner full = Texts.plan(Texts.full());
            c.indices("train", full, 2, failed, t -> call.of(full, t, 4, 3));
        });
    }

    private static void carIndex(Edges e, String part, Asks call) {
        e.test(part, "- `car`: index of the car", c -> {
            TrolleyPlanner five = plan(of(1, 2, 3, 4, 5), 3, of(6), 2);
            c.indices("car of five", five, 5, car -> call.of(five, 0, car, 0));
            c.indices("car of one", five, 1, car -> call.of(five, 1, car, 0));
            TrolleyPlanner other = plan(of(6), 2, of(1, 2, 3, 4, 5), 3);
            c.indices("car of one", other, 1, car -> call.of(other, 0, car, 0));
            c.indices("car of five", other, 5, car -> call.of(other, 1, car, 0));
        });
    }

    private static void mealIndex(Edges e, String part, long failed, Asks call) {
        e.test(part, "- `meal`: index of the meal", c -> {
            TrolleyPlanner full = Texts.plan(Texts.full());
            c.indices("meal of four", full, 4, failed, m -> call.of(full, 1, 4, m));
            TrolleyPlanner one = Texts.plan(Texts.SMALL);
            c.indices("meal of one", one, 1, failed, m -> call.of(one, 0, 0, m));
        });
    }

    // ---- section 4

    private static void shares(Edges e) {
        e.test("Section 4", "The meals of a kind that were delivered to all cars of a train are shared out among its", c -> {
            // To which car they were delivered, and what the other train and the other meal have, counts for nothing.
            TrolleyPlanner p = Texts.plan(TRAINS + ";car 0 0 3 0;car 0 0 3 0;car 1 0 3 0;meal a 10 0;meal b 10 0" + REST
                + ";job 0 0 1 a 1;job 0 0 1 a 1;job 0 0 0 a 2;job 0 1 0 a 1;job 0 0 0 b 3");
            c.answered("share(0, 0, 0)", p, p.share(0, 0, 0), 2);
            c.answered("share(0, 1, 0)", p, p.share(0, 1, 0), 2);
            c.answered("share(1, 0, 0)", p, p.share(1, 0, 0), 1);
            c.answered("share(0, 0, 1)", p, p.share(0, 0, 1), 2);
            c.answered("share(0, 1, 1)", p, p.share(0, 1, 1), 1);
            c.answered("share(1, 0, 1)", p, p.share(1, 0, 1), 0);
            // All five cars, the last one among them; nothing of it is for the first car of the other train.
            TrolleyPlanner five = Texts.plan(TRAINS + ";car 0 0 1 0".repeat(5) + ";car 1 0 1 0".repeat(5) + ";meal a 20 0"
                + REST.replace("stock 0 b 999;", "") + ";job 0 0 4 a 3");
            int[] due = {1, 1, 1, 0, 0};
            for (int car = 0; car < 5; car++) {
                c.answered("share(0, " + car + ", 0)", five, five.share(0, car, 0), due[car]);
                c.answered("share(1, " + car + ", 0)", five, five.share(1, car, 0), 0);
            }
            c.answered("addJob", five, five.addJob(0, 1, 4, 0, 2), 2);
            c.answered("share(1, 1, 0)", five, five.share(1, 1, 0), 1);
            c.answered("share(0, 3, 0)", five, five.share(0, 3, 0), 0);
        });
        e.test("Section 4", "If they are at least the demand of the train, every car gets its demand.", c -> {
            shared(c, of(2, 7, 4), 12, 2, 6, 4);
            shared(c, of(2, 7, 4), 13, 2, 7, 4);
            shared(c, of(2, 7, 4), 14, 2, 7, 4);
            shared(c, of(2, 7, 4), 99, 2, 7, 4);
            shared(c, of(0, 0), 0, 0, 0);
            shared(c, of(0, 0), 1, 0, 0);
            shared(c, of(0, 0), 99, 0, 0);
            shared(c, of(1), 1, 1);
            shared(c, of(0, 1, 0), 1, 0, 1, 0);
        });
        e.test("Section 4", "Otherwise they are apportioned by the method of largest remainders", c -> {
            shared(c, of(2, 7, 4), 0, 0, 0, 0);
            // 1 meal: 2, 7 and 4 thirteenths. 6 meals: 12, 42 (3 and 3) and 24 (1 and 11).
            shared(c, of(2, 7, 4), 1, 0, 1, 0);
            shared(c, of(2, 7, 4), 6, 1, 3, 2);
            // Equal fractions: the cars with the smaller numbers, whatever their whole parts are.
            shared(c, of(3, 3, 3), 1, 1, 0, 0);
            shared(c, of(3, 3, 3), 2, 1, 1, 0);
            shared(c, of(3, 3, 3), 3, 1, 1, 1);
            shared(c, of(3, 3, 3), 8, 3, 3, 2);
            shared(c, of(1, 1, 1, 1, 1), 4, 1, 1, 1, 1, 0);
            // 8 of 12: 8, 56 (4 and 8) and 32 (2 and 8) twelfths.
            shared(c, of(1, 7, 4), 8, 1, 5, 2);
            // 3 of 6: 3 of 6 (of 1), 15 (2 and 3), so the first one gets the only one.
            shared(c, of(1, 5), 3, 1, 2);
            shared(c, of(5, 1), 3, 3, 0);
            // A fraction that is a little larger wins over a smaller number: 4 and 5 of 9.
            shared(c, of(4, 5), 1, 0, 1);
            shared(c, of(5, 4), 1, 1, 0);
            // No fraction: nothing remains. A car without demand gets nothing.
            shared(c, of(2, 4), 3, 1, 2);
            shared(c, of(0, 3, 0, 3, 0), 1, 0, 1, 0, 0, 0);
            shared(c, of(0, 3, 0, 3, 0), 5, 0, 3, 0, 2, 0);
            // The greatest demands: five cars of 99, 99 meals.
            shared(c, of(99, 99, 99, 99, 99), 99, 20, 20, 20, 20, 19);
        });
    }

    private static void coverageOfATrain(Edges e) {
        e.test("Section 4", "The coverage of a train in a meal is the number of delivered meals divided by its demand,", c -> {
            covered(c, plan(of(4, 6), 0, of(1), 0), 0, 0, 0, 1);
            covered(c, plan(of(4, 6), 1, of(1), 0), 0, 0, 1, 10);
            covered(c, plan(of(4, 6), 9, of(1), 0), 0, 0, 9, 10);
            covered(c, plan(of(4, 6), 10, of(1), 0), 0, 0, 1, 1);
            covered(c, plan(of(4, 6), 11, of(1), 0), 0, 0, 1, 1);
            covered(c, plan(of(4, 6), 99, of(1), 0), 0, 0, 1, 1);
            covered(c, plan(of(0, 0), 0, of(1), 0), 0, 0, 1, 1);
            covered(c, plan(of(0, 0), 9, of(1), 0), 0, 0, 1, 1);
            covered(c, plan(of(0, 0), 9, of(1), 0), 1, 0, 0, 1);
        });
    }

    // ---- promises 30 to 32

    private static void share(Edges e) {
        e.test("Promise 30", "Returns how many meals a car gets when the meals are shared out (section 4).", c -> {
            shared(c, of(1, 2, 3, 4, 5), 8, 0, 1, 2, 2, 3);
            TrolleyPlanner p = plan(of(2), 1, of(1, 2, 3, 4, 5), 8);
            // 8 of 15: 8, 16 (1 and 1), 24 (1 and 9), 32 (2 and 2), 40 (2 and 10) fifteenths.
            int[] due = {0, 1, 2, 2, 3};
            for (int car = 0; car < 5; car++) {
                c.answered("share(1, " + car + ", 0)", p, p.share(1, car, 0), due[car]);
            }
            c.answered("share(0, 0, 0)", p, p.share(0, 0, 0), 1);
        });
        trainIndex(e, "Promise 30", Checks.FAILED, (p, t, k, m) -> p.share(t, k, m));
        carIndex(e, "Promise 30", (p, t, k, m) -> p.share(t, k, m));
        mealIndex(e, "Promise 30", Checks.FAILED, (p, t, k, m) -> p.share(t, k, m));
        e.test("Promise 30", "Returns the number of meals; FAILED on an error: 1.", c -> {
            TrolleyPlanner none = new TrolleyPlanner();
            c.refused("share without a plan", none, none.share(0, 0, 0), 1);
            TrolleyPlanner most = Texts.plan(TRAINS + ";car 0 0 99 99;car 1 0 0 0;meal a 20 20"
                + REST.replace("stock 0 b 999;", "") + ";job 0 0 0 a 99".repeat(4));
            c.answered("the most meals", most, most.share(0, 0, 0), 396);
            c.answered("the fewest meals", most, most.share(1, 0, 0), 0);
        });
    }

    private static void carried(Edges e) {
        e.test("Promise 31", "Returns how many meals must be carried from car to car so that every car has its share", c -> {
            c.answered("all to the first car", plan(of(3, 3, 3), 6, of(1), 0), plan(of(3, 3, 3), 6, of(1), 0).carried(0, 0), 4);
            int[][] due = {{0, 0}, {1, 0}, {2, 1}, {3, 2}, {6, 4}, {9, 6}, {10, 6}, {99, 6}};
            for (int[] one : due) {
                TrolleyPlanner p = plan(of(3, 3, 3), one[0], of(5), 5);
                c.answered("carried with " + one[0], p, p.carried(0, 0), one[1]);
                c.answered("carried in a single car", p, p.carried(1, 0), 0);
                c.answered("carried without demand", p, p.carried(0, 1), 0);
            }
            // Nothing is carried where each car has its share, and only what is above the share moves.
            TrolleyPlanner p = Texts.plan(TRAINS + ";car 1 0 3 0;car 1 0 3 0;car 0 0 3 0;meal a 10 0"
                + REST.replace("stock 0 b 999;", "") + ";job 0 1 0 a 2;job 0 1 1 a 2");
            c.answered("carried(1, 0) with 2 and 2", p, p.carried(1, 0), 0);
            p.setQuantity(1, 3);
            c.answered("carried(1, 0) with 2 and 3", p, p.carried(1, 0), 1);
            p.setQuantity(0, 3);
            c.answered("carried(1, 0) with 3 and 3", p, p.carried(1, 0), 0);
            p.setQuantity(0, 1);
            p.setQuantity(1, 9);
            c.answered("carried(1, 0) with 1 and 9", p, p.carried(1, 0), 2);
        });
        trainIndex(e, "Promise 31", Checks.FAILED, (p, t, k, m) -> p.carried(t, m));
        mealIndex(e, "Promise 31", Checks.FAILED, (p, t, k, m) -> p.carried(t, m));
        e.test("Promise 31", "Returns the number of meals; FAILED on an error: 1.", c -> {
            TrolleyPlanner none = new TrolleyPlanner();
            c.refused("carried without a plan", none, none.carried(0, 0), 1);
            TrolleyPlanner p = plan(of(0, 99), 99, of(1), 0);
            c.answered("all meals are carried", p, p.carried(0, 0), 99);
            c.answered("none is carried", p, p.carried(1, 0), 0);
        });
    }

    private static void jointShare(Edges e) {
        e.test("Promise 32", "Returns how many meals a car would get if the meals of a kind that were delivered to both", c -> {
            // At least the sum of both demands, 13: with 6 and 7, or all to one train.
            joint(c, plan(of(2, 4), 6, of(7), 7), of(2, 4), of(7));
            joint(c, plan(of(2, 4), 13, of(7), 0), of(2, 4), of(7));
            joint(c, plan(of(2, 4), 0, of(7), 99), of(2, 4), of(7));
            // One less: 24, 48 and 84 thirteenths, the fractions 11, 9 and 6.
            joint(c, plan(of(2, 4), 12, of(7), 0), of(2, 4), of(6));
            joint(c, plan(of(2, 4), 0, of(7), 12), of(2, 4), of(6));
            // Equal fractions: train 0 comes first, in each train the smaller number.
            joint(c, plan(of(3, 3), 0, of(3, 3), 1), of(1, 0), of(0, 0));
            joint(c, plan(of(3, 3), 0, of(3, 3), 2), of(1, 1), of(0, 0));
            joint(c, plan(of(3, 3), 1, of(3, 3), 2), of(1, 1), of(1, 0));
            joint(c, plan(of(3, 3), 2, of(3, 3), 2), of(1, 1), of(1, 1));
            joint(c, plan(of(3), 1, of(3, 3, 3, 3, 3), 0), of(1), of(0, 0, 0, 0, 0));
            // All ten cars there may be, 9 meals, and 49 of 50.
            joint(c, plan(of(1, 1, 1, 1, 1), 5, of(1, 1, 1, 1, 1), 4), of(1, 1, 1, 1, 1), of(1, 1, 1, 1, 0));
            joint(c, plan(of(1, 1, 1, 1, 1), 5, of(1, 1, 1, 1, 1), 5), of(1, 1, 1, 1, 1), of(1, 1, 1, 1, 1));
            joint(c, plan(of(5, 4, 3, 2, 1), 99, of(6, 7, 8, 9, 10), 99), of(5, 4, 3, 2, 1), of(6, 7, 8, 9, 10));
            joint(c, plan(of(5, 5, 5, 5, 5), 49, of(5, 5, 5, 5, 5), 0), of(5, 5, 5, 5, 5), of(5, 5, 5, 5, 4));
            // No meals, no demand.
            joint(c, plan(of(3, 3), 0, of(3), 0), of(0, 0), of(0));
            joint(c, plan(of(0, 0), 5, of(0), 5), of(0, 0), of(0));
            joint(c, plan(of(0, 0), 5, of(9), 1), of(0, 0), of(6));
        });
        trainIndex(e, "Promise 32", Checks.FAILED, (p, t, k, m) -> p.jointShare(t, k, m));
        carIndex(e, "Promise 32", (p, t, k, m) -> p.jointShare(t, k, m));
        mealIndex(e, "Promise 32", Checks.FAILED, (p, t, k, m) -> p.jointShare(t, k, m));
        e.test("Promise 32", "Returns the number of meals; FAILED on an error: 1.", c -> {
            TrolleyPlanner none = new TrolleyPlanner();
            c.refused("jointShare without a plan", none, none.jointShare(0, 0, 0), 1);
            TrolleyPlanner most = Texts.plan(TRAINS + ";car 0 0 99 99;car 1 0 0 0;meal a 20 20"
                + REST.replace("stock 0 b 999;", "") + ";job 0 1 0 a 99".repeat(4));
            c.answered("the most meals", most, most.jointShare(0, 0, 0), 396);
            c.answered("the fewest meals", most, most.jointShare(1, 0, 0), 0);
        });
    }

    // ---- promises 33 to 35

    private static void coverage(Edges e) {
        e.test("Promise 33", "Returns the numerator or the denominator of the coverage of a train in a meal, in lowest", c -> {
            int[][] due = {{0, 0, 1}, {1, 1, 12}, {2, 1, 6}, {3, 1, 4}, {4, 1, 3}, {5, 5, 12}, {6, 1, 2}, {8, 2, 3}, {9, 3, 4},
                {10, 5, 6}, {11, 11, 12}, {12, 1, 1}, {13, 1, 1}, {24, 1, 1}};
            for (int[] one : due) {
                covered(c, plan(of(12), one[0], of(3), 0), 0, 0, one[1], one[2]);
                covered(c, plan(of(3), 0, of(5, 7), one[0]), 1, 0, one[1], one[2]);
            }
            covered(c, plan(of(99), 98, of(3), 0), 0, 0, 98, 99);
            covered(c, plan(of(99), 66, of(3), 0), 0, 0, 2, 3);
            covered(c, plan(of(97), 96, of(3), 0), 0, 0, 96, 97);
        });
        trainIndex(e, "Promise 33", TrolleyPlanner.FAILED_LONG, (p, t, k, m) -> p.coverage(t, m, false));
        mealIndex(e, "Promise 33", TrolleyPlanner.FAILED_LONG, (p, t, k, m) -> p.coverage(t, m, true));
        e.test("Promise 33", "- `denominator`: whether the denominator is returned", c -> {
            TrolleyPlanner p = plan(of(3), 2, of(5), 3);
            c.answered("false", p, p.coverage(0, 0, false), 2);
            c.answered("true", p, p.coverage(0, 0, true), 3);
            c.refusedLong("false, no such meal", p, p.coverage(0, 2, false), 1);
            c.refusedLong("true, no such meal", p, p.coverage(0, 2, true), 1);
        });
        e.test("Promise 33", "Returns the number; FAILED_LONG on an error: 1.", c -> {
            TrolleyPlanner none = new TrolleyPlanner();
            c.refusedLong("coverage without a plan", none, none.coverage(0, 0, false), 1);
            c.refusedLong("coverage without a plan", none, none.coverage(0, 0, true), 1);
            TrolleyPlanner most = Texts.plan(TRAINS + ";car 0 0 99 99".repeat(5) + ";car 1 0 0 0;meal a 20 20"
                + REST.replace("stock 0 b 999;", "") + ";job 0 0 0 a 99".repeat(4) + ";job 0 0 0 a 1");
            covered(c, most, 0, 0, 397, 1980);
        });
    }

    private static void leastCoverage(Edges e) {
        String text = TRAINS
            + ";car 0 0 9 9;car 1 0 9 9;meal a 10 0;meal b 0 10;meal c 0 0;meal d 10 10;kitchen 0;stock 0 a 99;stock 0 b 99;"
            + "stock 0 d 99;trolley 0 99 1 1 1";
        e.test("Promise 34", "Returns the numerator or the denominator of the least coverage of a train over all meals,", c -> {
            // 6 of 9, 3 of 9, no demand, 12 of 18.
            TrolleyPlanner p = Texts.plan(text + ";job 0 0 0 a 6;job 0 0 0 b 3;job 0 0 0 d 12");
            c.answered("of the second meal, above", p, p.leastCoverage(0, false), 1);
            c.answered("of the second meal, below", p, p.leastCoverage(0, true), 3);
            p.setQuantity(0, 2);
            c.answered("of the first meal, above", p, p.leastCoverage(0, false), 2);
            c.answered("of the first meal, below", p, p.leastCoverage(0, true), 9);
            p.setQuantity(2, 3);
            c.answered("of the last meal, above", p, p.leastCoverage(0, false), 1);
            c.answered("of the last meal, below", p, p.leastCoverage(0, true), 6);
            p.setQuantity(2, 18);
            p.setQuantity(1, 9);
            p.setQuantity(0, 8);
            c.answered("all but one meal, above", p, p.leastCoverage(0, false), 8);
            c.answered("all but one meal, below", p, p.leastCoverage(0, true), 9);
            p.setQuantity(0, 9);
            c.answered("all meals, above", p, p.leastCoverage(0, false), 1);
            c.answered("all meals, below", p, p.leastCoverage(0, true), 1);
            c.answered("nothing for train 1, above", p, p.leastCoverage(1, false), 0);
            c.answered("nothing for train 1, below", p, p.leastCoverage(1, true), 1);
            // A single meal; a single meal without demand.
            TrolleyPlanner one = Texts.plan(Texts.SMALL);
            c.answered("a single meal, above", one, one.leastCoverage(0, false), 0);
            TrolleyPlanner none = Texts.plan(Texts.SMALL.replace("car 0 10 20 0", "car 0 10 0 0"));
            c.answered("without demand, above", none, none.leastCoverage(0, false), 1);
            c.answered("without demand, below", none, none.leastCoverage(0, true), 1);
        });
        trainIndex(e, "Promise 34", TrolleyPlanner.FAILED_LONG, (p, t, k, m) -> p.leastCoverage(t, true));
        e.test("Promise 34", "- `denominator`: whether the denominator is returned", c -> {
            TrolleyPlanner p = plan(of(3), 2, of(5), 3);
            c.answered("false", p, p.leastCoverage(0, false), 2);
            c.answered("true", p, p.leastCoverage(0, true), 3);
            c.refusedLong("false, no such train", p, p.leastCoverage(2, false), 1);
            c.refusedLong("true, no such train", p, p.leastCoverage(2, true), 1);
        });
        e.test("Promise 34", "Returns the number; FAILED_LONG on an error: 1.", c -> {
            TrolleyPlanner none = new TrolleyPlanner();
            c.refusedLong("leastCoverage without a plan", none, none.leastCoverage(0, false), 1);
            c.refusedLong("leastCoverage without a plan", none, none.leastCoverage(1, true), 1);
        });
    }

    private static void betterServed(Edges e) {
        e.test("Promise 35", "Compares the coverages of both trains in a meal.", c -> {
            int[][] due = {{3, 1, 3, 1, -1}, {3, 1, 6, 2, -1}, {3, 1, 6, 1, 0}, {3, 1, 6, 3, 1}, {3, 0, 6, 0, -1},
                {3, 0, 6, 1, 1}, {3, 3, 6, 6, -1}, {3, 9, 6, 7, -1}, {3, 3, 6, 5, 0}, {3, 2, 6, 6, 1}, {0, 0, 0, 0, -1},
                {0, 0, 6, 6, -1}, {0, 0, 6, 5, 0}, {6, 5, 0, 0, 1}, {6, 0, 0, 9, 1}, {99, 98, 98, 97, 0}, {98, 97, 99, 98, 1},
                {99, 66, 3, 2, -1}};
            for (int[] one : due) {
                TrolleyPlanner p = plan(of(one[0]), one[1], of(one[2]), one[3]);
                c.answered(one[1] + " of " + one[0] + " and " + one[3] + " of " + one[2], p, p.betterServed(0), one[4]);
                c.answered("a meal without demand", p, p.betterServed(1), -1);
            }
        });
        mealIndex(e, "Promise 35", Checks.FAILED, (p, t, k, m) -> p.betterServed(m));
        e.test("Promise 35", "Returns the train with the greater coverage; -1 if they are equal; FAILED on an error: 1.", c -> {
            TrolleyPlanner none = new TrolleyPlanner();
            c.refused("betterServed without a plan", none, none.betterServed(0), 1);
            TrolleyPlanner p = plan(of(9), 5, of(9), 5);
            c.answered("equal", p, p.betterServed(0), -1);
            p.setQuantity(1, 4);
            c.answered("one less for train 1", p, p.betterServed(0), 0);
            p.setQuantity(1, 6);
            c.answered("one more for train 1", p, p.betterServed(0), 1);
        });
    }

    private SharingEdges() {
    }
}
