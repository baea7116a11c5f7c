import java.util.function.Consumer;
import java.util.function.ToIntBiFunction;

/** The edges of section 6 on changes and of promises 45 to 56. */
final class ChangesEdges {
    /** The doors are at the kitchen: a job of q meals takes 2 q units. */
    private static final String NEAR = "train 0 from 5 to 20;train 1 from 0 to 10;car 0 0 1 0;car 1 0 1 0;car 1 0 1 0;"
        + "meal a 10 0;meal b 0 0;kitchen 0;stock 0 a 50;stock 0 b 60;trolley 0 9 1 1 1;trolley 0 9 1 1 1";
    private static final String THREE = NEAR + ";job 0 0 0 a 1;job 1 1 1 b 2;job 0 1 0 a 3";
    private static final String FIVE_TROLLEYS = NEAR + ";trolley 0 9 1 1 1".repeat(3);

    static void tell(Edges e) {
        changes(e);
        latestTen(e);
        addJob(e);
        removeJob(e);
        moveJob(e);
        setDeparture(e);
        setStock(e);
        setQuantity(e);
        applyBest(e);
        undo(e);
        save(e);
        restore(e);
        served(e);
        error(e);
    }

    // ---- what the tests below share

    private static void jobs(Checks c, TrolleyPlanner p, int... trolleysAndQuantities) {
        c.answered("jobCount()", p, p.jobCount(), trolleysAndQuantities.length);
        for (int job = 0; job < trolleysAndQuantities.length; job++) {
            c.answered("jobTrolley(" + job + ")", p, p.jobTrolley(job), trolleysAndQuantities[job] / 100);
            c.answered("jobQuantity(" + job + ")", p, p.jobQuantity(job), trolleysAndQuantities[job] % 100);
        }
    }

    /** The call is one change: it can be undone once, and then all is as before. */
    private static void oneChange(Checks c, String what, Consumer<TrolleyPlanner> call) {
        TrolleyPlanner p = Texts.plan(THREE);
        call.accept(p);
        c.answered("undo() of " + what, p, p.undo(), 0);
        c.same("undo() of " + what, Whole.of(p), Whole.of(Texts.plan(THREE)));
        TrolleyPlanner second = Texts.plan(THREE);
        second.setQuantity(2, 4);
        call.accept(second);
        c.answered("undo() of " + what + ", a second change", second, second.undo(), 1);
        TrolleyPlanner first = Texts.plan(THREE);
        first.setQuantity(2, 4);
        c.same("undo() of " + what + ", a second change", Whole.of(second), Whole.of(first));
    }

    private static void trolleyIndex(Edges e, String part, ToIntBiFunction<TrolleyPlanner, Integer> call) {
        e.test(part, "- `trolley`: index of the trolley", c -> {
            TrolleyPlanner two = Texts.plan(THREE);
            c.indices("trolley of two", two, 2, trolley -> call.applyAsInt(two, trolley));
            TrolleyPlanner five = Texts.plan(FIVE_TROLLEYS);
            c.indices("trolley of five", five, 5, trolley -> call.applyAsInt(five, trolley));
            TrolleyPlanner none = new TrolleyPlanner();
            c.indices("trolley without a plan", none, 0, trolley -> call.applyAsInt(none, trolley));
        });
    }

    private static void trainIndex(Edges e, String part, ToIntBiFunction<TrolleyPlanner, Integer> call) {
        e.test(part, "- `train`: 0 or 1", c -> {
            TrolleyPlanner p = Texts.plan(THREE);
            c.indices("train", p, 2, train -> call.applyAsInt(p, train));
            TrolleyPlanner none = new TrolleyPlanner();
            c.indices("train without a plan", none, 0, train -> call.applyAsInt(none, train));
        });
    }

    private static void mealIndex(Edges e, String part, ToIntBiFunction<TrolleyPlanner, Integer> call) {
        e.test(part, "- `meal`: index of the meal", c -> {
            TrolleyPlanner two = Texts.plan(THREE);
            c.indices("meal of two", two, 2, meal -> call.applyAsInt(two, meal));
            TrolleyPlanner four = Texts.plan(THREE + ";meal c 1 1;meal d 1 1");
            c.indices("meal of four", four, 4, meal -> call.applyAsInt(four, meal));
        });
    }

    private static void jobIndex(Edges e, String part, ToIntBiFunction<TrolleyPlanner, Integer> call) {
        e.test(part, "- `job`: index of the job", c -> {
            // A change at each call: as many jobs as there are, whatever has been removed.
            TrolleyPlanner full = Texts.plan(Texts.full());
            int[] wrong = {-1, 20, 21, 1 << 30, Integer.MIN_VALUE, Integer.MAX_VALUE};
            for (int job : wrong) {
                c.refused("job " + job + " of twenty", full, call.applyAsInt(full, job), 1);
            }
            c.due("job 19 of twenty fails", call.applyAsInt(full, 19) == Checks.FAILED ? 1 : 0, 0);
            c.due("job 0 fails", call.applyAsInt(full, 0) == Checks.FAILED ? 1 : 0, 0);
            TrolleyPlanner none = Texts.plan(NEAR);
            c.refused("job 0 without jobs", none, call.applyAsInt(none, 0), 1);
            TrolleyPlanner unplanned = new TrolleyPlanner();
            c.refused("job 0 without a plan", unplanned, call.applyAsInt(unplanned, 0), 1);
            TrolleyPlanner removed = Texts.plan(THREE);
            removed.removeJob(0);
            c.refused("job 2 of two", removed, call.applyAsInt(removed, 2), 1);
        });
    }

    // ---- section 6

    private static void changes(Edges e) {
        e.test("Section 6", "The methods that are documented as changes can be undone, the latest one first.", c -> {
            TrolleyPlanner p = Texts.plan(THREE);
            p.addJob(1, 0, 0, 0, 9);
            p.moveJob(3, 0);
            p.setQuantity(0, 8);
            p.removeJob(1);
            p.setDeparture(0, 30);
            p.setStock(0, 0, 7);
            p.applyBest(0);
            jobs(c, p, 108, 102, 3);
            c.answered("undo() of applyBest", p, p.undo(), 6);
            c.answered("stock(0, 0)", p, p.stock(0, 0), 7);
            c.answered("undo() of setStock", p, p.undo(), 5);
            c.answered("stock(0, 0)", p, p.stock(0, 0), 50);
            c.answered("departure(0)", p, p.departure(0), 30);
            c.answered("undo() of setDeparture", p, p.undo(), 4);
            c.answered("departure(0)", p, p.departure(0), 20);
            jobs(c, p, 108, 102, 3);
            c.answered("undo() of removeJob", p, p.undo(), 3);
            jobs(c, p, 108, 1, 102, 3);
            c.answered("undo() of setQuantity", p, p.undo(), 2);
            jobs(c, p, 109, 1, 102, 3);
            c.answered("undo() of moveJob", p, p.undo(), 1);
            jobs(c, p, 1, 102, 3, 109);
            c.answered("undo() of addJob", p, p.undo(), 0);
            jobs(c, p, 1, 102, 3);
            c.refused("undo() of nothing", p, p.undo(), 6);
            // Other calls are none: not one of them can be undone.
            TrolleyPlanner asked = Texts.plan(THREE);
            asked.save();
            asked.bestSwap();
            asked.worstJob();
            asked.bestTrolley(0);
            asked.neededDelay(0);
            asked.deliveredWithout(0);
            asked.bestSet(0);
            asked.append(0, 0, 0, 0, 0);
            asked.load(0);
            asked.undo();
            c.refused("undo() of questions", asked, asked.undo(), 6);
        });
    }

    private static void latestTen(Edges e) {
        e.test("Section 6", "Only the latest 10 changes since the last successful call of load or restore are kept for", c -> {
            for (int changes : new int[] {0, 1, 9, 10, 11, 12, 20, 21, 35}) {
                TrolleyPlanner p = Texts.plan(THREE);
                for (int change = 1; change <= changes; change++) {
                    p.setStock(0, 0, 100 + change);
                }
                int kept = Math.min(10, changes);
                for (int left = kept - 1; left >= 0; left--) {
                    c.answered("undo() of " + changes, p, p.undo(), left);
                    int due = changes - kept + left;
                    c.answered("stock(0, 0)", p, p.stock(0, 0), due == 0 ? 50 : 100 + due);
                }
                c.refused("undo() of " + changes + " when none is left", p, p.undo(), 6);
                c.answered("stock(0, 0) stays", p, p.stock(0, 0), changes > 10 ? 100 + changes - 10 : 50);
            }
            // Undone ones do not come back: 2 of 3, then 9 new ones.
            TrolleyPlanner p = Texts.plan(THREE);
            for (int change = 1; change <= 3; change++) {
                p.setStock(0, 0, 100 + change);
            }
            c.answered("undo()", p, p.undo(), 2);
            c.answered("undo()", p, p.undo(), 1);
            for (int change = 1; change <= 8; change++) {
                p.setStock(0, 0, 200 + change);
            }
            for (int left = 8; left >= 0; left--) {
                c.answered("undo()", p, p.undo(), left);
            }
            c.answered("stock(0, 0)", p, p.stock(0, 0), 50);
            c.refused("undo()", p, p.undo(), 6);
            // Since load and restore, if they succeed.
            p.setStock(0, 0, 1);
            c.refused("restore() of nothing", p, p.restore(), 6);
            c.refused("load(1) of nothing", p, p.load(1), 2);
            c.refused("load of a wrong text", p, Texts.load(p, "x"), 4);
            c.answered("undo() after failed calls", p, p.undo(), 0);
            p.setStock(0, 0, 1);
            p.save();
            p.restore();
            c.refused("undo() after restore", p, p.undo(), 6);
            p.setStock(0, 0, 2);
            c.answered("undo() of a change since restore", p, p.undo(), 0);
            p.setStock(0, 0, 2);
            Texts.load(p, THREE);
            c.refused("undo() after load", p, p.undo(), 6);
            c.answered("stock(0, 0) after load", p, p.stock(0, 0), 50);
        });
    }

    // ---- promise 45

    private static void addJob(Edges e) {
        e.test("Promise 45", "Adds a job behind all other jobs.", c -> {
            TrolleyPlanner p = Texts.plan(NEAR);
            c.answered("the first job", p, p.addJob(1, 1, 1, 1, 2), 1);
            jobs(c, p, 102);
            c.answered("delivered(1, 1, 1)", p, p.delivered(1, 1, 1), 2);
            c.answered("the second job", p, p.addJob(0, 0, 0, 0, 1), 2);
            c.answered("the third job", p, p.addJob(1, 1, 0, 0, 3), 3);
            jobs(c, p, 102, 1, 103);
            c.answered("startTime(2), behind job 0", p, p.startTime(2), 4);
            c.answered("delivered(0, 0, 0)", p, p.delivered(0, 0, 0), 1);
            c.answered("delivered(1, 0, 0)", p, p.delivered(1, 0, 0), 3);
        });
        e.test("Promise 45", "This is a change.", c -> oneChange(c, "addJob", p -> p.addJob(1, 0, 0, 1, 9)));
        trolleyIndex(e, "Promise 45", (p, trolley) -> p.addJob(trolley, 0, 0, 0, 1));
        trainIndex(e, "Promise 45", (p, train) -> p.addJob(0, train, 0, 0, 1));
        e.test("Promise 45", "- `car`: index of the car", c -> {
            TrolleyPlanner p = Texts.plan(THREE);
            c.indices("car of one", p, 1, car -> p.addJob(0, 0, car, 0, 1));
            c.indices("car of two", p, 2, car -> p.addJob(1, 1, car, 0, 1));
            TrolleyPlanner five = Texts.plan(NEAR + ";car 0 0 1 0".repeat(4));
            c.indices("car of five", five, 5, car -> five.addJob(0, 0, car, 0, 1));
            c.indices("car of two", five, 2, car -> five.addJob(1, 1, car, 0, 1));
        });
        mealIndex(e, "Promise 45", (p, meal) -> p.addJob(1, 0, 0, meal, 1));
        e.test("Promise 45", "- `quantity`: 1 to 99", c -> {
            TrolleyPlanner p = Texts.plan(NEAR);
            c.numbers("addJob of", p, 1, 99, quantity -> p.addJob(0, 0, 0, 0, quantity));
            jobs(c, p, 1, 99);
        });
        e.test("Promise 45", "Returns the number of jobs; FAILED on an error: 1; 2 for quantity; 3 if there are 20 jobs", c -> {
            TrolleyPlanner p = Texts.plan(NEAR + ";trolley 0 9 1 1 1");
            for (int job = 1; job <= 8; job++) {
                c.answered("addJob", p, p.addJob(0, 0, 0, 0, 1), job);
            }
            c.refused("a ninth job of trolley 0", p, p.addJob(0, 0, 0, 0, 1), 3);
            c.refused("a ninth job of trolley 0, of 0 meals", p, p.addJob(0, 0, 0, 0, 0), 2);
            c.refused("a ninth job of trolley 0, of no such meal", p, p.addJob(0, 0, 0, 2, 1), 1);
            for (int job = 9; job <= 16; job++) {
                c.answered("addJob", p, p.addJob(1, 0, 0, 0, 1), job);
            }
            c.refused("a ninth job of trolley 1", p, p.addJob(1, 0, 0, 0, 1), 3);
            for (int job = 17; job <= 20; job++) {
                c.answered("addJob", p, p.addJob(2, 0, 0, 0, 1), job);
            }
            c.refused("a 21st job", p, p.addJob(2, 0, 0, 0, 1), 3);
            c.refused("a 21st job, of 100 meals", p, p.addJob(2, 0, 0, 0, 100), 2);
            c.refused("a 21st job, of no such trolley", p, p.addJob(3, 0, 0, 0, 1), 1);
            c.refused("a 21st job, and a ninth of its trolley", p, p.addJob(1, 0, 0, 0, 1), 3);
            c.answered("jobCount()", p, p.jobCount(), 20);
            c.answered("removeJob(0)", p, p.removeJob(0), 19);
            c.answered("addJob for the one that is removed", p, p.addJob(0, 0, 0, 0, 1), 20);
            c.refused("a 21st job again", p, p.addJob(2, 0, 0, 0, 1), 3);
            c.answered("undo()", p, p.undo(), 9);
            c.answered("addJob for the one that is undone", p, p.addJob(2, 0, 0, 0, 1), 20);
            TrolleyPlanner none = new TrolleyPlanner();
            c.refused("addJob without a plan", none, none.addJob(0, 0, 0, 0, 1), 1);
        });
    }

    // ---- promises 46 and 47

    private static void removeJob(Edges e) {
        e.test("Promise 46", "Removes a job.", c -> {
            TrolleyPlanner p = Texts.plan(THREE);
            c.answered("delivered(1, 1, 1)", p, p.delivered(1, 1, 1), 2);
            c.answered("removeJob(1)", p, p.removeJob(1), 2);
            jobs(c, p, 1, 3);
            c.answered("delivered(1, 1, 1)", p, p.delivered(1, 1, 1), 0);
            c.answered("finalStock(0, 1)", p, p.finalStock(0, 1), 60);
            c.answered("removeJob of the last one", p, p.removeJob(1), 1);
            c.answered("removeJob of the only one", p, p.removeJob(0), 0);
            jobs(c, p);
            c.answered("deliveredTotal()", p, p.deliveredTotal(), 0);
            c.refused("removeJob of none", p, p.removeJob(0), 1);
        });
        e.test("Promise 46", "The indices of the later jobs decrease by 1.", c -> {
            for (int removed : new int[] {0, 7, 19}) {
                TrolleyPlanner p = Texts.plan(Texts.full());
                c.answered("removeJob(" + removed + ")", p, p.removeJob(removed), 19);
                for (int job = 0; job < 19; job++) {
                    int was = job < removed ? job : job + 1;
                    c.answered("jobTrolley(" + job + ")", p, p.jobTrolley(job), was % 5);
                    c.answered("jobQuantity(" + job + ")", p, p.jobQuantity(job), was + 1);
                }
                c.refused("jobQuantity(19)", p, p.jobQuantity(19), 1);
                c.refused("startTime(19)", p, p.startTime(19), 1);
            }
        });
        e.test("Promise 46", "This is a change.", c -> oneChange(c, "removeJob", p -> p.removeJob(1)));
        jobIndex(e, "Promise 46", TrolleyPlanner::removeJob);
        e.test("Promise 46", "Returns the number of jobs that are left; FAILED on an error: 1.", c -> {
            TrolleyPlanner p = Texts.plan(Texts.full());
            for (int left = 19; left >= 0; left--) {
                c.answered("removeJob(0)", p, p.removeJob(0), left);
            }
            c.refused("removeJob(0) without jobs", p, p.removeJob(0), 1);
            TrolleyPlanner none = new TrolleyPlanner();
            c.refused("removeJob(0) without a plan", none, none.removeJob(0), 1);
        });
    }

    private static void moveJob(Edges e) {
        String five = NEAR + ";job 0 0 0 a 1;job 0 0 0 a 2;job 1 0 0 a 3;job 0 0 0 a 4;job 1 0 0 a 5";
        e.test("Promise 47", "Moves a job to another index; the jobs in between move by one towards its old index.", c -> {
            int[][] moves = {{0, 4, 2, 103, 4, 105, 1}, {4, 0, 105, 1, 2, 103, 4}, {1, 3, 1, 103, 4, 2, 105},
                {3, 1, 1, 4, 2, 103, 105}, {0, 1, 2, 1, 103, 4, 105}, {1, 0, 2, 1, 103, 4, 105}, {3, 4, 1, 2, 103, 105, 4},
                {4, 3, 1, 2, 103, 105, 4}};
            for (int[] move : moves) {
                TrolleyPlanner p = Texts.plan(five);
                c.answered("moveJob(" + move[0] + ", " + move[1] + ")", p, p.moveJob(move[0], move[1]), 0);
                jobs(c, p, move[2], move[3], move[4], move[5], move[6]);
            }
            // The whole job moves, with its car and its meal.
            TrolleyPlanner p = Texts.plan(THREE);
            p.moveJob(0, 2);
            jobs(c, p, 102, 3, 1);
            c.answered("startTime(2)", p, p.startTime(2), 6);
            c.answered("delivered(0, 0, 0)", p, p.delivered(0, 0, 0), 1);
            c.answered("delivered(1, 1, 1)", p, p.delivered(1, 1, 1), 2);
            c.answered("delivered(1, 0, 0)", p, p.delivered(1, 0, 0), 3);
            TrolleyPlanner full = Texts.plan(Texts.full());
            full.moveJob(0, 19);
            c.answered("the last job", full, full.jobQuantity(19), 1);
            c.answered("the one before it", full, full.jobQuantity(18), 20);
            full.moveJob(19, 0);
            c.answered("the first job", full, full.jobQuantity(0), 1);
            c.answered("the last job", full, full.jobQuantity(19), 20);
        });
        e.test("Promise 47", "This is a change, even if both indices are equal.", c -> {
            oneChange(c, "moveJob(0, 2)", p -> p.moveJob(0, 2));
            oneChange(c, "moveJob(2, 0)", p -> p.moveJob(2, 0));
            for (int job = 0; job < 3; job++) {
                final int same = job;
                oneChange(c, "moveJob to the same index", p -> p.moveJob(same, same));
                TrolleyPlanner p = Texts.plan(THREE);
                c.answered("moveJob(" + job + ", " + job + ")", p, p.moveJob(job, job), 0);
                jobs(c, p, 1, 102, 3);
            }
        });
        jobIndex(e, "Promise 47", (p, job) -> p.moveJob(job, 0));
        e.test("Promise 47", "- `to`: the new index, that of an existing job", c -> {
            TrolleyPlanner p = Texts.plan(THREE);
            c.indices("moveJob to", p, 3, to -> p.moveJob(1, to));
            TrolleyPlanner full = Texts.plan(Texts.full());
            c.indices("moveJob to", full, 20, to -> full.moveJob(19, to));
            TrolleyPlanner one = Texts.plan(NEAR + ";job 0 0 0 a 1");
            c.indices("moveJob to", one, 1, to -> one.moveJob(0, to));
        });
        e.test("Promise 47", "Returns 0; FAILED on an error: 1.", c -> {
            TrolleyPlanner none = new TrolleyPlanner();
            c.refused("moveJob(0, 0) without a plan", none, none.moveJob(0, 0), 1);
            TrolleyPlanner p = Texts.plan(NEAR);
            c.refused("moveJob(0, 0) without jobs", p, p.moveJob(0, 0), 1);
            p.addJob(0, 0, 0, 0, 1);
            c.answered("moveJob(0, 0)", p, p.moveJob(0, 0), 0);
            c.refused("moveJob(1, 0)", p, p.moveJob(1, 0), 1);
            c.refused("moveJob(0, 1)", p, p.moveJob(0, 1), 1);
            c.refused("moveJob(-1, -1)", p, p.moveJob(-1, -1), 1);
        });
    }

    // ---- promises 48 to 50

    private static void setDeparture(Edges e) {
        e.test("Promise 48", "Sets the departure of a train.", c -> {
            TrolleyPlanner p = Texts.plan(THREE);
            c.answered("deliveredTotal()", p, p.deliveredTotal(), 4);
            c.answered("setDeparture(0, 6)", p, p.setDeparture(0, 6), 20);
            c.answered("departure(0)", p, p.departure(0), 6);
            c.answered("departure(1)", p, p.departure(1), 10);
            c.answered("unloaded(0)", p, p.unloaded(0), 1);
            c.answered("setDeparture(0, 5)", p, p.setDeparture(0, 5), 6);
            c.answered("unloaded(0)", p, p.unloaded(0), 0);
        });
        e.test("Promise 48", "This is a change.", c -> {
            oneChange(c, "setDeparture", p -> p.setDeparture(0, 5));
            oneChange(c, "setDeparture to the same time", p -> p.setDeparture(1, 10));
        });
        trainIndex(e, "Promise 48", (p, train) -> p.setDeparture(train, 50));
        e.test("Promise 48", "- `time`: from the arrival of the train to 999", c -> {
            TrolleyPlanner p = Texts.plan(THREE);
            c.numbers("setDeparture(0)", p, 5, 999, time -> p.setDeparture(0, time));
            c.numbers("setDeparture(1)", p, 0, 999, time -> p.setDeparture(1, time));
            TrolleyPlanner late = Texts.plan(THREE.replace("train 1 from 0 to 10", "train 1 from 900 to 950"));
            c.numbers("setDeparture(1)", late, 900, 999, time -> late.setDeparture(1, time));
            c.numbers("setDeparture(0)", late, 5, 999, time -> late.setDeparture(0, time));
        });
        e.test("Promise 48", "Returns the previous departure; FAILED on an error: 1; 2 for time.", c -> {
            TrolleyPlanner none = new TrolleyPlanner();
            c.refused("setDeparture(0, 10) without a plan", none, none.setDeparture(0, 10), 1);
            TrolleyPlanner p = Texts.plan(THREE);
            c.answered("setDeparture(1, 0)", p, p.setDeparture(1, 0), 10);
            c.answered("setDeparture(1, 999)", p, p.setDeparture(1, 999), 0);
            c.answered("setDeparture(1, 7)", p, p.setDeparture(1, 7), 999);
            c.refused("setDeparture(1, 1000)", p, p.setDeparture(1, 1000), 2);
            c.refused("setDeparture(2, 1000)", p, p.setDeparture(2, 1000), 1);
            c.answered("setDeparture(1, 8)", p, p.setDeparture(1, 8), 7);
        });
    }

    private static void setStock(Edges e) {
        e.test("Promise 49", "Sets the stock of a kitchen.", c -> {
            TrolleyPlanner p = Texts.plan(THREE + ";kitchen 5;stock 1 a 9");
            c.answered("setStock(0, 0, 2)", p, p.setStock(0, 0, 2), 50);
            c.answered("stock(0, 0)", p, p.stock(0, 0), 2);
            c.answered("stock(0, 1)", p, p.stock(0, 1), 60);
            c.answered("stock(1, 0)", p, p.stock(1, 0), 9);
            c.answered("loaded(0)", p, p.loaded(0), 1);
            c.answered("loaded(2)", p, p.loaded(2), 1);
            c.answered("setStock(1, 1, 3), where no stock line is", p, p.setStock(1, 1, 3), 0);
            c.answered("finalStock(1, 1)", p, p.finalStock(1, 1), 3);
        });
        e.test("Promise 49", "This is a change.", c -> {
            oneChange(c, "setStock", p -> p.setStock(0, 0, 0));
            oneChange(c, "setStock to the same number", p -> p.setStock(0, 0, 50));
            // Each of the stocks there may be is undone, and restored.
            TrolleyPlanner all = Texts.plan(Texts.full());
            all.save();
            for (int stock = 0; stock < 12; stock++) {
                int due = 100 * (stock / 4) + stock % 4;
                c.answered("setStock", all, all.setStock(stock / 4, stock % 4, 999), due);
                c.answered("undo()", all, all.undo(), 0);
                c.answered("stock after undo()", all, all.stock(stock / 4, stock % 4), due);
                c.answered("setStock", all, all.setStock(stock / 4, stock % 4, 998), due);
                c.answered("restore()", all, all.restore(), 20);
                c.answered("stock after restore()", all, all.stock(stock / 4, stock % 4), due);
            }
        });
        e.test("Promise 49", "- `kitchen`: index of the kitchen", c -> {
            TrolleyPlanner one = Texts.plan(THREE);
            c.indices("setStock of kitchen", one, 1, kitchen -> one.setStock(kitchen, 0, 5));
            TrolleyPlanner three = Texts.plan(THREE + ";kitchen 5;kitchen 5");
            c.indices("setStock of kitchen", three, 3, kitchen -> three.setStock(kitchen, 1, 5));
        });
        mealIndex(e, "Promise 49", (p, meal) -> p.setStock(0, meal, 5));
        e.test("Promise 49", "- `quantity`: 0 to 999", c -> {
            TrolleyPlanner p = Texts.plan(THREE);
            c.numbers("setStock to", p, 0, 999, quantity -> p.setStock(0, 1, quantity));
        });
        e.test("Promise 49", "Returns the previous stock; FAILED on an error: 1; 2 for quantity.", c -> {
            TrolleyPlanner none = new TrolleyPlanner();
            c.refused("setStock(0, 0, 5) without a plan", none, none.setStock(0, 0, 5), 1);
            TrolleyPlanner p = Texts.plan(THREE);
            c.answered("setStock(0, 0, 999)", p, p.setStock(0, 0, 999), 50);
            c.answered("setStock(0, 0, 0)", p, p.setStock(0, 0, 0), 999);
            c.answered("setStock(0, 0, 1)", p, p.setStock(0, 0, 1), 0);
            c.refused("setStock(0, 0, 1000)", p, p.setStock(0, 0, 1000), 2);
            c.refused("setStock(1, 0, 1000)", p, p.setStock(1, 0, 1000), 1);
            c.refused("setStock(0, 2, -1)", p, p.setStock(0, 2, -1), 1);
            // The stock before the simulation, not what is left after it.
            c.answered("setStock(0, 0, 2)", p, p.setStock(0, 0, 2), 1);
        });
    }

    private static void setQuantity(Edges e) {
        e.test("Promise 50", "Sets the QUANTITY of a job.", c -> {
            TrolleyPlanner p = Texts.plan(THREE);
            c.answered("setQuantity(1, 4)", p, p.setQuantity(1, 4), 2);
            jobs(c, p, 1, 104, 3);
            c.answered("loaded(1)", p, p.loaded(1), 4);
            c.answered("setQuantity(1, 99)", p, p.setQuantity(1, 99), 4);
            c.answered("loaded(1), the capacity", p, p.loaded(1), 9);
            c.answered("jobQuantity(1)", p, p.jobQuantity(1), 99);
        });
        e.test("Promise 50", "This is a change.", c -> {
            oneChange(c, "setQuantity", p -> p.setQuantity(0, 9));
            oneChange(c, "setQuantity to the same number", p -> p.setQuantity(1, 2));
        });
        jobIndex(e, "Promise 50", (p, job) -> p.setQuantity(job, 5));
        e.test("Promise 50", "- `quantity`: 1 to 99", c -> {
            TrolleyPlanner p = Texts.plan(THREE);
            c.numbers("setQuantity to", p, 1, 99, quantity -> p.setQuantity(2, quantity));
            TrolleyPlanner full = Texts.plan(Texts.full());
            c.numbers("setQuantity to", full, 1, 99, quantity -> full.setQuantity(19, quantity));
        });
        e.test("Promise 50", "Returns the previous QUANTITY; FAILED on an error: 1; 2 for quantity.", c -> {
            TrolleyPlanner none = new TrolleyPlanner();
            c.refused("setQuantity(0, 5) without a plan", none, none.setQuantity(0, 5), 1);
            TrolleyPlanner p = Texts.plan(THREE);
            c.answered("setQuantity(0, 99)", p, p.setQuantity(0, 99), 1);
            c.answered("setQuantity(0, 1)", p, p.setQuantity(0, 1), 99);
            c.refused("setQuantity(0, 0)", p, p.setQuantity(0, 0), 2);
            c.refused("setQuantity(0, 100)", p, p.setQuantity(0, 100), 2);
            c.refused("setQuantity(3, 100)", p, p.setQuantity(3, 100), 1);
            c.answered("setQuantity(0, 2)", p, p.setQuantity(0, 2), 1);
        });
    }

    // ---- promise 51

    private static void applied(Checks c, String jobs, int trolley, int removed, int... left) {
        TrolleyPlanner p = Texts.plan(NEAR + jobs);
        c.answered("applyBest(" + trolley + ") of " + jobs, p, p.applyBest(trolley), removed);
        jobs(c, p, left);
        c.answered("undo()", p, p.undo(), 0);
        c.same("undo()", Whole.of(p), Whole.of(Texts.plan(NEAR + jobs)));
    }

    private static void applyBest(Edges e) {
        e.test("Promise 51", "Removes the jobs of a trolley that are not in its best set and puts the others in the", c -> {
            // Train 0 is there from 5 to 20, train 1 from 0 to 10: first the 4 meals, then the 5.
            applied(c, ";job 0 0 0 a 5;job 0 1 0 a 9;job 0 1 0 a 4", 0, 1, 4, 5);
            applied(c, ";job 1 0 0 b 1;job 0 0 0 a 5;job 1 0 0 b 2;job 0 1 0 a 9;job 1 0 0 b 3;job 0 1 0 a 4;job 1 0 0 b 4", 0, 1,
                101, 4, 102, 5, 103, 104);
            // The whole job is put there, with its car and its meal.
            TrolleyPlanner p = Texts.plan(NEAR + ";job 0 0 0 a 5;job 0 1 1 b 4");
            c.answered("delivered(1, 1, 1) before", p, p.delivered(1, 1, 1), 0);
            c.answered("applyBest(0)", p, p.applyBest(0), 0);
            c.answered("delivered(1, 1, 1)", p, p.delivered(1, 1, 1), 4);
            c.answered("delivered(0, 0, 0)", p, p.delivered(0, 0, 0), 5);
            c.answered("startTime(1)", p, p.startTime(1), 8);
        });
        e.test("Promise 51", "More precisely: let the jobs of the trolley have the indices i(0), i(1), ..", c -> {
            // No job, one job, all jobs, none of the jobs in the best set.
            applied(c, "", 0, 0);
            applied(c, ";job 1 0 0 b 1", 0, 0, 101);
            applied(c, ";job 0 0 0 a 1", 0, 0, 1);
            applied(c, ";job 0 1 0 a 9;job 1 0 0 b 1", 0, 1, 101);
            applied(c, ";job 0 1 0 a 9;job 1 0 0 b 1;job 0 1 0 a 8", 0, 2, 101);
            applied(c, ";job 1 0 0 a 1;job 0 1 0 a 5;job 1 0 0 a 2;job 0 0 0 a 5", 0, 0, 101, 5, 102, 5);
        });
        e.test("Promise 51", "The job at index i(k), for k below n, becomes the k-th job of the order", c -> {
            // Three of four jobs, at the indices 1, 3, 4 and 6: those of 2, 3 and 4 meals, train 1 first.
            applied(c,
                ";job 1 0 0 b 1;job 0 1 0 a 9;job 1 0 0 b 2;job 0 0 0 a 2;job 0 1 0 a 4;job 1 0 0 b 3;job 0 0 0 a 3;"
                    + "job 1 0 0 b 4",
                0, 1, 101, 4, 102, 2, 3, 103, 104);
            // Eight jobs, of which the last one has to be the first: all of them.
            TrolleyPlanner eight = Texts.plan(NEAR.replace("from 0 to 10", "from 0 to 2") + ";job 0 0 0 a 1".repeat(7)
                + ";job 0 1 0 b 1");
            c.answered("delivered(1, 0, 1) before", eight, eight.delivered(1, 0, 1), 0);
            c.answered("applyBest(0)", eight, eight.applyBest(0), 0);
            c.answered("unloaded(0)", eight, eight.unloaded(0), 1);
            c.answered("delivered(1, 0, 1)", eight, eight.delivered(1, 0, 1), 1);
            // Twenty jobs, of which eight are removed: all of trolley 1, which comes too late.
            TrolleyPlanner full = Texts.plan(NEAR + ";trolley 0 9 1 1 1" + ";job 1 1 0 a 9;job 0 0 0 a 1".repeat(8)
                + ";job 2 0 0 b 7".repeat(4));
            c.answered("applyBest(1)", full, full.applyBest(1), 8);
            jobs(c, full, 1, 1, 1, 1, 1, 1, 1, 1, 207, 207, 207, 207);
            c.answered("applyBest(2)", full, full.applyBest(2), 3);
            jobs(c, full, 1, 1, 1, 1, 1, 1, 1, 1, 207);
        });
        e.test("Promise 51", "This is a change, even if nothing becomes different.", c -> {
            oneChange(c, "applyBest", p -> p.applyBest(0));
            oneChange(c, "applyBest, nothing becomes different", p -> p.applyBest(1));
            TrolleyPlanner p = Texts.plan(NEAR);
            c.answered("applyBest(0) without jobs", p, p.applyBest(0), 0);
            c.answered("undo()", p, p.undo(), 0);
            c.refused("undo()", p, p.undo(), 6);
        });
        trolleyIndex(e, "Promise 51", TrolleyPlanner::applyBest);
        e.test("Promise 51", "Returns the number of jobs that were removed; FAILED on an error: 1.", c -> {
            TrolleyPlanner none = new TrolleyPlanner();
            c.refused("applyBest(0) without a plan", none, none.applyBest(0), 1);
            TrolleyPlanner p = Texts.plan(NEAR.replace("to 20", "to 5") + Texts.eightJobs(0, 0));
            c.answered("the most", p, p.applyBest(0), 8);
            c.answered("none", p, p.applyBest(0), 0);
            c.answered("jobCount()", p, p.jobCount(), 0);
            c.refused("no such trolley", p, p.applyBest(2), 1);
        });
    }

    // ---- promises 52 to 54

    private static void undo(Edges e) {
        e.test("Promise 52", "Undoes the latest change that was not undone yet.", c -> {
            TrolleyPlanner p = Texts.plan(THREE);
            p.setQuantity(0, 11);
            p.setQuantity(1, 12);
            p.setQuantity(0, 13);
            c.answered("undo()", p, p.undo(), 2);
            jobs(c, p, 11, 112, 3);
            c.answered("undo()", p, p.undo(), 1);
            jobs(c, p, 11, 102, 3);
            p.setQuantity(2, 14);
            c.answered("undo() of a change behind undone ones", p, p.undo(), 1);
            jobs(c, p, 11, 102, 3);
            c.answered("undo()", p, p.undo(), 0);
            jobs(c, p, 1, 102, 3);
            // The simulation is undone with it.
            p.setStock(0, 0, 0);
            c.answered("deliveredTotal()", p, p.deliveredTotal(), 2);
            p.undo();
            c.answered("deliveredTotal()", p, p.deliveredTotal(), 4);
        });
        e.test("Promise 52", "Returns the number of changes that can still be undone; FAILED on an error: 1; 6 if there", c -> {
            TrolleyPlanner none = new TrolleyPlanner();
            c.refused("undo() without a plan", none, none.undo(), 1);
            c.refused("undo() without a plan again", none, none.undo(), 1);
            TrolleyPlanner p = Texts.plan(THREE);
            c.refused("undo() without changes", p, p.undo(), 6);
            p.setQuantity(0, 9);
            c.answered("undo() of the only one", p, p.undo(), 0);
            c.refused("undo() of one more", p, p.undo(), 6);
            jobs(c, p, 1, 102, 3);
            for (int change = 0; change < 10; change++) {
                p.moveJob(0, 0);
            }
            c.answered("undo() of the tenth", p, p.undo(), 9);
            p.moveJob(0, 0);
            p.moveJob(0, 0);
            c.answered("undo() of the eleventh", p, p.undo(), 9);
        });
    }

    private static void save(Edges e) {
        e.test("Promise 53", "Saves the jobs, the departures and the stocks.", c -> {
            TrolleyPlanner p = Texts.plan(THREE);
            p.setQuantity(1, 9);
            p.setDeparture(0, 6);
            p.setStock(0, 1, 8);
            TrolleyPlanner as = Texts.plan(THREE);
            as.setQuantity(1, 9);
            as.setDeparture(0, 6);
            as.setStock(0, 1, 8);
            as.save();
            as.restore();
            c.answered("save()", p, p.save(), 0);
            p.removeJob(0);
            p.addJob(1, 0, 0, 0, 9);
            p.addJob(1, 0, 0, 0, 9);
            p.setDeparture(0, 20);
            p.setDeparture(1, 20);
            p.setStock(0, 0, 0);
            p.setStock(0, 1, 999);
            c.answered("restore()", p, p.restore(), 3);
            jobs(c, p, 1, 109, 3);
            c.answered("departure(0)", p, p.departure(0), 6);
            c.answered("departure(1)", p, p.departure(1), 10);
            c.answered("stock(0, 0)", p, p.stock(0, 0), 50);
            c.answered("stock(0, 1)", p, p.stock(0, 1), 8);
            c.same("restore()", Whole.of(p), Whole.of(as));
            // No jobs, and as many as there may be.
            TrolleyPlanner most = Texts.plan(Texts.full());
            most.save();
            for (int left = 20; left > 0; left--) {
                most.removeJob(0);
            }
            c.answered("restore() of twenty jobs", most, most.restore(), 20);
            c.answered("jobQuantity(19)", most, most.jobQuantity(19), 20);
            TrolleyPlanner fewest = Texts.plan(NEAR);
            fewest.save();
            fewest.addJob(0, 0, 0, 0, 1);
            c.answered("restore() of no jobs", fewest, fewest.restore(), 0);
        });
        e.test("Promise 53", "What was saved before is lost.", c -> {
            TrolleyPlanner p = Texts.plan(THREE);
            p.save();
            p.setQuantity(0, 7);
            p.save();
            p.setQuantity(0, 8);
            c.answered("restore()", p, p.restore(), 3);
            jobs(c, p, 7, 102, 3);
            c.answered("restore() again", p, p.restore(), 3);
            jobs(c, p, 7, 102, 3);
        });
        e.test("Promise 53", "This is not a change.", c -> {
            TrolleyPlanner p = Texts.plan(THREE);
            p.save();
            c.refused("undo() after save alone", p, p.undo(), 6);
            p.setQuantity(0, 7);
            p.save();
            c.answered("undo() after save", p, p.undo(), 0);
            jobs(c, p, 1, 102, 3);
            c.answered("restore() of what undo did not touch", p, p.restore(), 3);
            jobs(c, p, 7, 102, 3);
        });
        e.test("Promise 53", "Returns 0; FAILED on an error: 1.", c -> {
            TrolleyPlanner p = new TrolleyPlanner();
            c.refused("save() without a plan", p, p.save(), 1);
            Texts.load(p, "x");
            c.refused("save() after a parse error", p, p.save(), 1);
            Texts.load(p, THREE);
            c.refused("restore() of what a failed save left", p, p.restore(), 6);
            c.answered("save()", p, p.save(), 0);
            c.answered("save() again", p, p.save(), 0);
        });
    }

    private static void restore(Edges e) {
        e.test("Promise 54", "Restores what was saved, which stays saved.", c -> {
            TrolleyPlanner p = Texts.plan(THREE);
            p.save();
            for (int round = 0; round < 3; round++) {
                p.removeJob(2);
                p.setStock(0, 0, round);
                p.setDeparture(1, round);
                c.answered("restore()", p, p.restore(), 3);
                jobs(c, p, 1, 102, 3);
                c.answered("stock(0, 0)", p, p.stock(0, 0), 50);
                c.answered("departure(1)", p, p.departure(1), 10);
                c.answered("deliveredTotal()", p, p.deliveredTotal(), 4);
            }
            c.answered("restore() without a change", p, p.restore(), 3);
        });
        e.test("Promise 54", "Nothing can be undone afterwards.", c -> {
            TrolleyPlanner p = Texts.plan(THREE);
            p.setQuantity(0, 5);
            p.save();
            p.setQuantity(0, 6);
            c.answered("restore()", p, p.restore(), 3);
            c.refused("undo()", p, p.undo(), 6);
            jobs(c, p, 5, 102, 3);
            for (int change = 0; change < 12; change++) {
                p.moveJob(0, 1);
            }
            p.restore();
            c.refused("undo() after many changes", p, p.undo(), 6);
            p.setQuantity(0, 9);
            c.answered("undo() of a change since", p, p.undo(), 0);
            jobs(c, p, 5, 102, 3);
        });
        e.test("Promise 54", "Returns the number of jobs; FAILED on an error: 1; 6 if nothing is saved.", c -> {
            TrolleyPlanner p = new TrolleyPlanner();
            c.refused("restore() without a plan", p, p.restore(), 1);
            Texts.load(p, THREE);
            p.setQuantity(0, 5);
            c.refused("restore() of nothing", p, p.restore(), 6);
            c.answered("undo() after a failed restore", p, p.undo(), 0);
            p.save();
            c.answered("restore()", p, p.restore(), 3);
            Texts.load(p, NEAR);
            c.refused("restore() after load", p, p.restore(), 6);
            p.save();
            c.answered("restore() without jobs", p, p.restore(), 0);
            c.refused("load of a wrong text", p, Texts.load(p, "x"), 4);
            c.answered("restore() after a parse error", p, p.restore(), 0);
        });
    }

    // ---- promises 55 and 56

    private static void served(Edges e) {
        // Of the jobs 0 to 4 only 1 and 3 unload something.
        String some = NEAR + ";job 1 1 0 b 99;job 0 1 1 b 1;job 1 1 0 b 1;job 0 0 0 a 2;job 1 1 0 b 1";
        e.test("Promise 55", "Returns the index of the i-th job that unloads something, in the order of the job numbers.", c -> {
            TrolleyPlanner p = Texts.plan(some.replace("from 0 to 10", "from 0 to 9"));
            c.due("served(0)", p.served(0), 1);
            c.due("served(1)", p.served(1), 3);
            c.notServed(p, 2);
            // One meal is enough.
            p.setDeparture(1, 10);
            c.due("served(0), one of nine meals", p.served(0), 0);
            c.due("unloaded(0)", p.unloaded(0), 1);
            c.due("served(2)", p.served(2), 3);
            // By numbers, not by times: job 0 is the later one.
            TrolleyPlanner later = Texts.plan(NEAR + ";job 1 0 0 a 7;job 0 1 0 a 1");
            c.due("served(0)", later.served(0), 0);
            c.due("served(1)", later.served(1), 1);
        });
        e.test("Promise 55", "Sets no error code.", c -> {
            TrolleyPlanner p = new TrolleyPlanner();
            c.notServed(p, 0);
            c.due("error() at first", p.error(), 0);
            p.jobCount();
            c.notServed(p, 0);
            c.due("error() after an error", p.error(), 1);
            TrolleyPlanner planned = Texts.plan(some);
            planned.load(-1);
            planned.served(0);
            c.due("error() when it succeeds", planned.error(), 2);
            c.notServed(planned, 9);
            c.due("error() when it fails", planned.error(), 2);
            planned.jobCount();
            c.notServed(planned, -1);
            c.due("error() when it fails after a success", planned.error(), 0);
        });
        e.test("Promise 55", "- `i`: from 0", c -> {
            TrolleyPlanner p = Texts.plan(NEAR.replace("to 20", "to 999").replace("stock 0 a 50", "stock 0 a 999")
                + ";trolley 0 9 1 1 1"
                + ";job 0 0 0 a 1;job 1 0 0 a 1".repeat(8) + ";job 2 0 0 a 1".repeat(4));
            for (int i = 0; i < 20; i++) {
                c.due("served(" + i + ") of twenty", p.served(i), i);
            }
            for (int i : new int[] {-1, 20, 21, 1 << 30, Integer.MIN_VALUE, Integer.MAX_VALUE}) {
                c.notServed(p, i);
            }
        });
        e.test("Promise 55", "Returns the index of the job.", c -> {
            TrolleyPlanner p = Texts.plan(NEAR + ";job 0 0 0 a 1");
            c.due("served(0) of one", p.served(0), 0);
            c.notServed(p, 1);
            c.notServed(p, -1);
        });
        e.test("Promise 55", "Throws `NoSuchElementException` if there is no plan or no such job", c -> {
            TrolleyPlanner none = new TrolleyPlanner();
            for (int i : new int[] {-1, 0, 1, Integer.MIN_VALUE, Integer.MAX_VALUE}) {
                c.notServed(none, i);
            }
            Texts.load(none, "x");
            c.notServed(none, 0);
            TrolleyPlanner p = Texts.plan(NEAR);
            c.notServed(p, 0);
            c.notServed(p, -1);
            p.addJob(0, 1, 0, 0, 9);
            p.setDeparture(1, 9);
            c.notServed(p, 0);
            p.setDeparture(1, 10);
            c.due("served(0)", p.served(0), 0);
            c.notServed(p, 1);
        });
    }

    private static void error(Edges e) {
        e.test("Promise 56", "Returns the error code of the latest call that sets one (section 6).", c -> {
            TrolleyPlanner p = Texts.plan(THREE);
            p.carCount(2);
            c.due("error()", p.error(), 1);
            c.due("error() again", p.error(), 1);
            p.append(0, 0, 0, 0, 0);
            p.buffered();
            p.parseError();
            p.errorPosition();
            p.served(0);
            c.notServed(p, 9);
            c.due("error() after calls that set none", p.error(), 1);
            p.carCount(1);
            c.due("error() after a success", p.error(), 0);
        });
        e.test("Promise 56", "Returns 0 to 6; 0 at first.", c -> {
            TrolleyPlanner p = new TrolleyPlanner();
            c.due("error() at first", p.error(), 0);
            p.jobCount();
            c.due("error()", p.error(), 1);
            p.load(-1);
            c.due("error()", p.error(), 2);
            Texts.load(p, THREE);
            c.due("error()", p.error(), 0);
            for (int job = 0; job < 7; job++) {
                p.addJob(0, 0, 0, 0, 1);
            }
            c.due("error()", p.error(), 3);
            Texts.load(p, "x");
            c.due("error()", p.error(), 4);
            p.restore();
            c.due("error()", p.error(), 6);
        });
    }

    private ChangesEdges() {
    }
}
