/** The edges of section 2 and of promises 7 to 15: what the text says of the plan. */
final class PlanEdges {
    private static final String TWO_TRAINS = "train 0 from 0 to 99;train 1 from 0 to 99";
    private static final String REST = ";kitchen 5;stock 0 a 99;trolley 0 9 1 1 1;trolley 0 9 1 1 1";
    private static final String LEAST = TWO_TRAINS + ";car 0 5 0 0;car 1 5 0 0;meal a 1 1;kitchen 5;trolley 0 1 1 1 1";

    static void tell(Edges e) {
        carsAndDemand(e);
        counts(e);
        departures(e);
        stocks(e);
        demands(e);
        jobs(e);
    }

    // ---- section 2

    private static int demandOf(int first, int firstRate, int second, int secondRate) {
        return Texts.plan(TWO_TRAINS + ";car 0 5 0 0;car 1 5 " + first + " " + second + ";meal a " + firstRate + " "
            + secondRate + REST)
            .demand(1, 0, 0);
    }

    private static void carsAndDemand(Edges e) {
        e.test("Section 2", "Every car has a door of its own, also if several cars have the same DOOR.", c -> {
            String text = TWO_TRAINS + ";car 0 5 9 9;car 0 5 9 9;car 1 5 9 9;meal a 1 1" + REST;
            String[] second = {"0 0", "0 1", "1 0"};
            for (int k = 0; k < second.length; k++) {
                TrolleyPlanner p = Texts.plan(text + ";job 0 0 0 a 3;job 1 " + second[k] + " a 3");
                c.answered("unloadTime(0)", p, p.unloadTime(0), 3);
                c.answered("unloadTime(1) at the door of " + second[k], p, p.unloadTime(1), k == 0 ? 6 : 3);
                c.answered("doorBusy(0, 0)", p, p.doorBusy(0, 0), k == 0 ? 6 : 3);
                c.answered("doorBusy(0, 1)", p, p.doorBusy(0, 1), k == 1 ? 3 : 0);
                c.answered("doorBusy(1, 0)", p, p.doorBusy(1, 0), k == 2 ? 3 : 0);
            }
        });
        e.test("Section 2", "The demand of a car for a meal is", c -> {
            c.due("no tenths", demandOf(0, 0, 0, 0), 0);
            c.due("no passengers", demandOf(0, 20, 0, 20), 0);
            c.due("no rates", demandOf(99, 0, 99, 0), 0);
            c.due("1 tenth of the first class", demandOf(1, 1, 0, 20), 1);
            c.due("1 tenth of the second class", demandOf(0, 20, 1, 1), 1);
            c.due("9 tenths", demandOf(9, 1, 0, 0), 1);
            c.due("10 tenths", demandOf(5, 1, 5, 1), 1);
            c.due("11 tenths", demandOf(5, 1, 6, 1), 2);
            c.due("19 tenths", demandOf(19, 1, 0, 0), 2);
            c.due("20 tenths", demandOf(1, 20, 0, 0), 2);
            c.due("21 tenths", demandOf(3, 7, 0, 0), 3);
            c.due("two halves are added before they are rounded", demandOf(1, 5, 1, 5), 1);
            c.due("all the first class", demandOf(99, 20, 0, 0), 198);
            c.due("all the second class", demandOf(0, 0, 99, 20), 198);
            c.due("all passengers and rates", demandOf(99, 20, 99, 20), 396);
            c.due("all but one", demandOf(98, 20, 99, 20), 394);
            c.due("3761 tenths", demandOf(99, 19, 94, 20), 377);
        });
        e.test("Section 2", "The demand of a train for a meal is the sum over its cars.", c -> {
            // Three cars with 1 tenth each want 1 meal each, so the train wants 3.
            TrolleyPlanner p = Texts.plan(TWO_TRAINS + ";car 0 5 1 0;car 0 5 1 0;car 1 5 9 0;car 0 5 1 0;meal a 1 1" + REST
                + ";job 0 0 0 a 1");
            c.due("the demand of train 0", p.coverage(0, 0, true), 3);
            p.setQuantity(0, 2);
            c.due("two of three", p.coverage(0, 0, false), 2);
            p.setQuantity(0, 3);
            c.due("three of three", p.coverage(0, 0, true), 1);
            // Five cars of 396 meals: as much as there may be.
            TrolleyPlanner most = Texts.plan(TWO_TRAINS + ";car 0 5 99 99".repeat(5) + ";car 1 5 0 0;meal a 20 20" + REST
                + ";job 0 0 0 a 1");
            c.due("the greatest demand", most.coverage(0, 0, true), 1980);
            c.due("the least demand", most.coverage(1, 0, true), 1);
            c.due("the least demand is met", most.coverage(1, 0, false), 1);
        });
    }

    // ---- promises 7 to 10

    private static TrolleyPlanner five(int train) {
        return Texts.plan(LEAST + (";car " + train + " 5 1 1").repeat(4));
    }

    private static void counts(Edges e) {
        e.test("Promise 7", "Returns the number of cars of a train.", c -> {
            for (int train = 0; train < 2; train++) {
                TrolleyPlanner p = new TrolleyPlanner();
                for (int cars = 1; cars <= 5; cars++) {
                    c.answered("load", p, Texts.load(p, LEAST + (";car " + train + " 5 1 1").repeat(cars - 1)), 0);
                    c.answered("carCount(" + train + ")", p, p.carCount(train), cars);
                    c.answered("carCount of the other", p, p.carCount(1 - train), 1);
                }
                c.refused("load of a sixth car", p, Texts.load(p, LEAST + (";car " + train + " 5 1 1").repeat(5)), 4);
                c.answered("carCount(" + train + ")", p, p.carCount(train), 5);
            }
        });
        e.test("Promise 7", "- `train`: 0 or 1", c -> {
            TrolleyPlanner p = Texts.plan(LEAST);
            c.indices("carCount", p, 2, p::carCount);
        });
        e.test("Promise 7", "Returns 1 to 5; FAILED on an error: 1.", c -> {
            for (int train = 0; train < 2; train++) {
                TrolleyPlanner p = five(train);
                c.answered("the most cars", p, p.carCount(train), 5);
                c.answered("the fewest cars", p, p.carCount(1 - train), 1);
            }
            TrolleyPlanner none = new TrolleyPlanner();
            c.indices("carCount without a plan", none, 0, none::carCount);
        });
        e.test("Promise 8", "Returns the number of meals.", c -> {
            TrolleyPlanner p = Texts.plan(LEAST + ";meal b 1 1");
            c.answered("mealCount()", p, p.mealCount(), 2);
            Texts.load(p, LEAST + ";meal b 1 1;meal c 0 0");
            c.answered("mealCount()", p, p.mealCount(), 3);
        });
        e.test("Promise 8", "Returns 1 to 4; FAILED on an error: 1.", c -> {
            TrolleyPlanner none = new TrolleyPlanner();
            c.refused("mealCount() without a plan", none, none.mealCount(), 1);
            TrolleyPlanner p = Texts.plan(LEAST);
            c.answered("the fewest meals", p, p.mealCount(), 1);
            Texts.load(p, Texts.full());
            c.answered("the most meals", p, p.mealCount(), 4);
        });
        e.test("Promise 9", "Returns the number of trolleys.", c -> {
            TrolleyPlanner p = Texts.plan(LEAST + ";kitchen 1;trolley 1 1 1 1 1");
            c.answered("trolleyCount()", p, p.trolleyCount(), 2);
        });
        e.test("Promise 9", "Returns 1 to 5; FAILED on an error: 1.", c -> {
            TrolleyPlanner none = new TrolleyPlanner();
            c.refused("trolleyCount() without a plan", none, none.trolleyCount(), 1);
            TrolleyPlanner p = Texts.plan(LEAST);
            c.answered("the fewest trolleys", p, p.trolleyCount(), 1);
            Texts.load(p, Texts.full());
            c.answered("the most trolleys", p, p.trolleyCount(), 5);
        });
        e.test("Promise 10", "Returns the number of jobs.", c -> {
            TrolleyPlanner p = Texts.plan(LEAST + ";job 0 0 0 a 1");
            c.answered("jobCount()", p, p.jobCount(), 1);
            p.addJob(0, 1, 0, 0, 1);
            c.answered("jobCount() with another one", p, p.jobCount(), 2);
            p.removeJob(0);
            p.removeJob(0);
            c.answered("jobCount() when all are removed", p, p.jobCount(), 0);
        });
        e.test("Promise 10", "Returns 0 to 20; FAILED on an error: 1.", c -> {
            TrolleyPlanner none = new TrolleyPlanner();
            c.refused("jobCount() without a plan", none, none.jobCount(), 1);
            TrolleyPlanner p = Texts.plan(LEAST);
            c.answered("no jobs", p, p.jobCount(), 0);
            Texts.load(p, Texts.full());
            c.answered("the most jobs", p, p.jobCount(), 20);
        });
    }

    // ---- promises 11 and 12

    private static void departures(Edges e) {
        e.test("Promise 11", "Returns the departure of a train.", c -> {
            TrolleyPlanner p = Texts.plan(LEAST.replace("train 0 from 0 to 99", "train 0 from 0 to 0").replace("to 99",
                "to 999"));
            c.answered("departure(0)", p, p.departure(0), 0);
            c.answered("departure(1)", p, p.departure(1), 999);
            p.setDeparture(1, 7);
            c.answered("departure(1) when it is set", p, p.departure(1), 7);
            c.answered("departure(0) when the other one is set", p, p.departure(0), 0);
        });
        e.test("Promise 11", "- `train`: 0 or 1", c -> {
            TrolleyPlanner p = Texts.plan(LEAST);
            c.indices("departure", p, 2, p::departure);
        });
        e.test("Promise 11", "Returns the time; FAILED on an error: 1.", c -> {
            TrolleyPlanner none = new TrolleyPlanner();
            c.indices("departure without a plan", none, 0, none::departure);
            TrolleyPlanner late = Texts.plan(LEAST.replace("train 0 from 0 to 99", "train 0 from 900 to 900"));
            c.answered("departure(0)", late, late.departure(0), 900);
        });
    }

    private static void stocks(Edges e) {
        String most = LEAST + ";kitchen 1;kitchen 2;meal b 1 1;meal c 1 1;meal d 1 1";
        e.test("Promise 12", "Returns the stock of a kitchen before the simulation.", c -> {
            TrolleyPlanner p = Texts.plan(LEAST + ";stock 0 a 8;job 0 0 0 a 1");
            c.answered("loaded(0)", p, p.loaded(0), 1);
            c.answered("stock(0, 0)", p, p.stock(0, 0), 8);
            c.answered("finalStock(0, 0)", p, p.finalStock(0, 0), 7);
        });
        e.test("Promise 12", "- `kitchen`: index of the kitchen", c -> {
            TrolleyPlanner one = Texts.plan(LEAST);
            c.indices("stock of kitchen", one, 1, k -> one.stock(k, 0));
            TrolleyPlanner p = Texts.plan(most);
            c.indices("stock of kitchen", p, 3, k -> p.stock(k, 3));
        });
        e.test("Promise 12", "- `meal`: index of the meal", c -> {
            TrolleyPlanner one = Texts.plan(LEAST);
            c.indices("stock of meal", one, 1, m -> one.stock(0, m));
            TrolleyPlanner p = Texts.plan(most);
            c.indices("stock of meal", p, 4, m -> p.stock(2, m));
        });
        e.test("Promise 12", "Returns 0 to 999; FAILED on an error: 1.", c -> {
            TrolleyPlanner p = Texts.plan(most + ";stock 0 a 999;stock 2 d 999;stock 1 b 0");
            c.answered("stock(0, 0)", p, p.stock(0, 0), 999);
            c.answered("stock(2, 3)", p, p.stock(2, 3), 999);
            c.answered("stock(1, 1)", p, p.stock(1, 1), 0);
            c.answered("stock(2, 2)", p, p.stock(2, 2), 0);
            TrolleyPlanner none = new TrolleyPlanner();
            c.indices("stock without a plan, of kitchen", none, 0, k -> none.stock(k, 0));
            c.indices("stock without a plan, of meal", none, 0, m -> none.stock(0, m));
            c.refused("stock without a plan", none, none.stock(0, 0), 1);
        });
    }

    // ---- promise 13

    private static void demands(Edges e) {
        e.test("Promise 13", "Returns the demand of a car for a meal.", c -> {
            TrolleyPlanner p = Texts.plan(Texts.full());
            for (int train = 0; train < 2; train++) {
                for (int car = 0; car < 5; car++) {
                    for (int meal = 0; meal < 4; meal++) {
                        int tenths = car * 5 * meal + train * 10;
                        c.answered("demand(" + train + ", " + car + ", " + meal + ")", p, p.demand(train, car, meal),
                            (tenths + 9) / 10);
                    }
                }
            }
        });
        e.test("Promise 13", "- `train`: 0 or 1", c -> {
            TrolleyPlanner p = Texts.plan(Texts.full());
            c.indices("demand of train", p, 2, t -> p.demand(t, 4, 3));
        });
        e.test("Promise 13", "- `car`: index of the car", c -> {
            TrolleyPlanner one = five(1);
            c.indices("demand of car", one, 1, k -> one.demand(0, k, 0));
            c.indices("demand of car", one, 5, k -> one.demand(1, k, 0));
            TrolleyPlanner other = five(0);
            c.indices("demand of car", other, 5, k -> other.demand(0, k, 0));
            c.indices("demand of car", other, 1, k -> other.demand(1, k, 0));
        });
        e.test("Promise 13", "- `meal`: index of the meal", c -> {
            TrolleyPlanner one = Texts.plan(LEAST);
            c.indices("demand for meal", one, 1, m -> one.demand(0, 0, m));
            TrolleyPlanner p = Texts.plan(Texts.full());
            c.indices("demand for meal", p, 4, m -> p.demand(1, 4, m));
        });
        e.test("Promise 13", "Returns the demand; FAILED on an error: 1.", c -> {
            c.due("the least demand", demandOf(0, 0, 0, 0), 0);
            c.due("the greatest demand", demandOf(99, 20, 99, 20), 396);
            TrolleyPlanner none = new TrolleyPlanner();
            c.refused("demand without a plan", none, none.demand(0, 0, 0), 1);
            c.indices("demand without a plan, of train", none, 0, t -> none.demand(t, 0, 0));
        });
    }

    // ---- promises 14 and 15

    private static void jobs(Edges e) {
        e.test("Promise 14", "Returns the trolley of a job.", c -> {
            TrolleyPlanner p = Texts.plan(Texts.full());
            for (int job = 0; job < 20; job++) {
                c.answered("jobTrolley(" + job + ")", p, p.jobTrolley(job), job % 5);
            }
        });
        e.test("Promise 14", "- `job`: index of the job", c -> {
            TrolleyPlanner p = Texts.plan(Texts.full());
            c.indices("jobTrolley", p, 20, p::jobTrolley);
            TrolleyPlanner one = Texts.plan(LEAST + ";job 0 0 0 a 1");
            c.indices("jobTrolley", one, 1, one::jobTrolley);
            one.addJob(0, 0, 0, 0, 1);
            c.indices("jobTrolley", one, 2, one::jobTrolley);
            one.removeJob(0);
            c.indices("jobTrolley", one, 1, one::jobTrolley);
            one.removeJob(0);
            c.indices("jobTrolley without jobs", one, 0, one::jobTrolley);
        });
        e.test("Promise 14", "Returns the index of the trolley; FAILED on an error: 1.", c -> {
            TrolleyPlanner none = new TrolleyPlanner();
            c.indices("jobTrolley without a plan", none, 0, none::jobTrolley);
            TrolleyPlanner p = Texts.plan(Texts.full());
            c.answered("the first trolley", p, p.jobTrolley(0), 0);
            c.answered("the last trolley", p, p.jobTrolley(19), 4);
        });
        e.test("Promise 15", "Returns the QUANTITY of a job.", c -> {
            // Not what is loaded: the capacity and the stock are smaller.
            TrolleyPlanner p = Texts.plan(LEAST + ";stock 0 a 0;job 0 0 0 a 7;job 0 0 0 a 9");
            c.answered("jobQuantity(0)", p, p.jobQuantity(0), 7);
            c.answered("jobQuantity(1)", p, p.jobQuantity(1), 9);
            c.answered("loaded(0)", p, p.loaded(0), 0);
        });
        e.test("Promise 15", "- `job`: index of the job", c -> {
            TrolleyPlanner p = Texts.plan(Texts.full());
            c.indices("jobQuantity", p, 20, p::jobQuantity);
            TrolleyPlanner none = Texts.plan(LEAST);
            c.indices("jobQuantity without jobs", none, 0, none::jobQuantity);
        });
        e.test("Promise 15", "Returns 1 to 99; FAILED on an error: 1.", c -> {
            TrolleyPlanner none = new TrolleyPlanner();
            c.indices("jobQuantity without a plan", none, 0, none::jobQuantity);
            TrolleyPlanner p = Texts.plan(LEAST + ";job 0 0 0 a 1;job 0 0 0 a 99");
            c.answered("jobQuantity(0)", p, p.jobQuantity(0), 1);
            c.answered("jobQuantity(1)", p, p.jobQuantity(1), 99);
        });
    }

    private PlanEdges() {
    }
}
