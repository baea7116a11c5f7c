/** The edges of section 3: the simulation, sentence by sentence. */
final class SimulationEdges {
    private static final String ONE = "trolley 0 99 1 1 1";

    static void tell(Edges e) {
        timeAndPlaces(e);
        loading(e);
        nothingToTake(e);
        beginOfUnloading(e);
        doors(e);
        howMany(e);
        walkingBack(e);
        returning(e);
        orderOfEvents(e);
    }

    // ---- what the tests below share

    /** Both trains from 0 to 999, their doors at the kitchen: a job of q meals is done 2 q units after its start. */
    private static TrolleyPlanner near(String rest) {
        return plan("0 to 999", "0 to 999", 0, 0, 999, rest);
    }

    private static TrolleyPlanner plan(String train0, String train1, int kitchen, int door, int stock, String rest) {
        return Texts.plan("train 0 from " + train0 + ";train 1 from " + train1 + ";car 0 " + door + " 9 9;car 1 " + door
            + " 9 9;meal a 10 10;meal b 1 1;kitchen " + kitchen + ";stock 0 a " + stock + ";stock 0 b 99;" + rest);
    }

    private static void job(Checks c, TrolleyPlanner p, int job, int start, int unload, int finish) {
        c.answered("startTime(" + job + ")", p, p.startTime(job), start);
        if (unload < 0) {
            c.refused("unloadTime(" + job + ")", p, p.unloadTime(job), 6);
            c.answered("unloaded(" + job + ")", p, p.unloaded(job), 0);
        } else {
            c.answered("unloadTime(" + job + ")", p, p.unloadTime(job), unload);
        }
        c.answered("finishTime(" + job + ")", p, p.finishTime(job), finish);
    }

    private static void meals(Checks c, TrolleyPlanner p, int job, int loaded, int unloaded) {
        c.answered("loaded(" + job + ")", p, p.loaded(job), loaded);
        c.answered("unloaded(" + job + ")", p, p.unloaded(job), unloaded);
    }

    // ---- time, places, trolleys

    private static void timeAndPlaces(Edges e) {
        e.noEdge("Section 3", "A job is done as follows.");
        e.test("Section 3", "Time is counted in whole units from 0.", c -> {
            TrolleyPlanner p = near(ONE + ";job 0 0 0 a 1;job 0 1 0 a 1");
            job(c, p, 0, 0, 1, 2);
            job(c, p, 1, 2, 3, 4);
            // A train that is there at 0 only takes nothing: the first meal is loaded at 1.
            job(c, plan("0 to 0", "0 to 0", 0, 0, 9, ONE + ";job 0 0 0 a 1"), 0, 0, -1, 1);
            job(c, plan("0 to 1", "0 to 1", 0, 0, 9, ONE + ";job 0 0 0 a 1"), 0, 0, -1, 1);
            job(c, plan("0 to 2", "0 to 2", 0, 0, 9, ONE + ";job 0 0 0 a 1"), 0, 0, 1, 2);
        });
        e.test("Section 3", "All places lie on a line; walking from one place to another one takes a trolley", c -> {
            int[][] ways = {{0, 1, 0}, {0, 9, 0}, {1, 1, 1}, {1, 2, 1}, {1, 9, 1}, {2, 2, 1}, {3, 2, 2}, {8, 9, 1}, {9, 9, 1},
                {10, 9, 2}, {18, 9, 2}, {19, 9, 3}, {98, 9, 11}, {99, 9, 11}, {90, 9, 10}, {91, 9, 11}, {99, 1, 99},
                {98, 1, 98}, {98, 2, 49}, {99, 2, 50}, {99, 5, 20}, {96, 5, 20}, {95, 5, 19}, {99, 8, 13}, {96, 8, 12},
                {97, 8, 13}, {99, 7, 15}, {98, 7, 14}};
            for (int[] way : ways) {
                String rest = "trolley 0 99 " + way[1] + " 1 1;job 0 0 0 a 1";
                job(c, plan("0 to 999", "0 to 999", 0, way[0], 9, rest), 0, 0, 1 + way[2], 2 + 2 * way[2]);
                job(c, plan("0 to 999", "0 to 999", way[0], 0, 9, rest), 0, 0, 1 + way[2], 2 + 2 * way[2]);
                job(c, plan("0 to 999", "0 to 999", 99 - way[0], 99, 9, rest), 0, 0, 1 + way[2], 2 + 2 * way[2]);
            }
        });
        e.test("Section 3", "Every trolley starts at time 0 at its kitchen and does its jobs in the order of their", c -> {
            TrolleyPlanner p = Texts.plan("train 0 from 0 to 99;train 1 from 0 to 99;car 0 9 9 9;car 1 9 9 9;meal a 1 1;"
                + "kitchen 9;kitchen 6;kitchen 0;stock 0 a 99;stock 1 a 99;stock 2 a 99;trolley 0 9 1 1 1;trolley 2 9 1 1 1;"
                + "trolley 1 9 1 1 1;"
                + "trolley 2 9 1 1 1;job 2 0 0 a 1;job 1 0 0 a 1;job 0 0 0 a 3;job 0 0 0 a 1;job 1 1 0 a 1;job 2 1 0 a 1");
            job(c, p, 2, 0, 3, 6);
            job(c, p, 0, 0, 6, 10);
            job(c, p, 1, 0, 10, 20);
            job(c, p, 3, 6, 7, 8);
            job(c, p, 5, 10, 14, 18);
            job(c, p, 4, 20, 30, 40);
            c.answered("stateAt(3, 0) without jobs", p, p.stateAt(3, 0), 0);
        });
    }

    // ---- loading

    private static void loading(Edges e) {
        e.test("Section 3", "Loading: when the trolley starts the job, it takes meals of the kind of the job", c -> {
            int[][] cases = {{5, 6, 7, 5}, {6, 5, 7, 5}, {7, 6, 5, 5}, {5, 5, 5, 5}, {4, 5, 5, 4}, {5, 4, 5, 4}, {5, 5, 4, 4},
                {1, 1, 1, 1}, {1, 99, 999, 1}, {99, 1, 999, 1}, {99, 99, 1, 1}, {99, 99, 999, 99}, {99, 99, 99, 99},
                {99, 99, 98, 98}, {99, 98, 99, 98}, {98, 99, 99, 98}, {99, 99, 100, 99}, {1, 1, 0, 0}, {99, 99, 0, 0}};
            for (int[] one : cases) {
                TrolleyPlanner p = plan("0 to 999", "0 to 999", 0, 0, one[2], "trolley 0 " + one[1] + " 1 1 1;job 0 0 0 a "
                    + one[0]);
                meals(c, p, 0, one[3], one[3]);
                c.answered("finalStock(0, 0)", p, p.finalStock(0, 0), one[2] - one[3]);
                c.answered("finalStock(0, 1), of another kind", p, p.finalStock(0, 1), 99);
            }
            // The stock of its own kitchen, though another one has meals.
            TrolleyPlanner other = near("kitchen 0;trolley 1 99 1 1 1;stock 1 a 3;job 0 0 0 a 5");
            meals(c, other, 0, 3, 3);
            c.answered("finalStock(0, 0)", other, other.finalStock(0, 0), 999);
            c.answered("finalStock(1, 0)", other, other.finalStock(1, 0), 0);
        });
        e.test("Section 3", "Loading takes LOAD units for each meal.", c -> {
            for (int load = 1; load <= 5; load++) {
                for (int meals : new int[] {1, 2, 99}) {
                    TrolleyPlanner p = near("trolley 0 99 1 " + load + " 1;job 0 0 0 a " + meals);
                    job(c, p, 0, 0, meals * load, meals * load + meals);
                    c.answered("stateAt", p, p.stateAt(0, meals * load - 1), 1);
                    c.answered("stateAt", p, p.stateAt(0, meals * load), 4);
                }
            }
        });
        e.test("Section 3", "Otherwise the trolley walks to the door of the car when loading is finished.", c -> {
            // Three meals, 2 units each, and a walk of 4.
            TrolleyPlanner p = plan("0 to 999", "0 to 999", 0, 4, 9, "trolley 0 99 1 2 1;job 0 0 0 a 3");
            int[][] states = {{0, 1}, {5, 1}, {6, 2}, {9, 2}, {10, 4}};
            for (int[] state : states) {
                c.answered("stateAt(0, " + state[0] + ")", p, p.stateAt(0, state[0]), state[1]);
            }
            job(c, p, 0, 0, 10, 17);
            // One meal is enough for a walk.
            job(c, plan("0 to 999", "0 to 999", 0, 4, 1, "trolley 0 99 1 2 1;job 0 0 0 a 3"), 0, 0, 6, 11);
        });
    }

    private static void nothingToTake(Edges e) {
        e.test("Section 3", "If there is nothing to take, the job is finished at once, and the next job starts at the", c -> {
            TrolleyPlanner none = plan("0 to 999", "0 to 999", 0, 4, 0, ONE + Texts.eightJobs(0, 0));
            for (int job = 0; job < 8; job++) {
                job(c, none, job, 0, -1, 0);
                meals(c, none, job, 0, 0);
            }
            c.answered("stateAt(0, 0)", none, none.stateAt(0, 0), 0);
            c.answered("deliveredTotal()", none, none.deliveredTotal(), 0);
            // The first jobs take all; the last one is of another kind.
            TrolleyPlanner some = plan("0 to 999", "0 to 999", 0, 4, 2, ONE + ";job 0 0 0 a 1;job 0 0 0 a 1;job 0 0 0 a 1;"
                + "job 0 1 0 a 1;job 0 0 0 b 1");
            job(c, some, 0, 0, 5, 10);
            job(c, some, 1, 10, 15, 20);
            job(c, some, 2, 20, -1, 20);
            job(c, some, 3, 20, -1, 20);
            job(c, some, 4, 20, 25, 30);
            // The next job of the trolley comes before those of trolleys with greater numbers at the same time.
            TrolleyPlanner first = plan("0 to 999", "0 to 999", 0, 4, 0, ONE + ";" + ONE
                + ";job 1 0 0 b 99;job 0 0 0 a 1;job 0 0 0 b 60");
            meals(c, first, 2, 60, 60);
            meals(c, first, 0, 39, 39);
        });
    }

    // ---- unloading

    private static void beginOfUnloading(Edges e) {
        e.test("Section 3", "Unloading: unloading can begin at the latest of three times", c -> {
            // The trolley reaches the door at 9; the train comes at 7 to 11.
            for (int arrival = 7; arrival <= 11; arrival++) {
                TrolleyPlanner p = plan(arrival + " to 999", "0 to 999", 0, 0, 999, ONE + ";job 0 0 0 a 9");
                int due = Math.max(9, arrival);
                job(c, p, 0, 0, due, due + 9);
                c.answered("longestWait(0)", p, p.longestWait(0), due - 9);
            }
            // Another trolley ends there at 8, 9 or 10.
            String[] others = {"trolley 0 99 1 1 3;job 1 0 0 a 2", "trolley 0 99 1 1 2;job 1 0 0 a 3",
                "trolley 0 99 1 1 1;job 1 0 0 a 5"};
            for (int k = 0; k < others.length; k++) {
                TrolleyPlanner p = near(ONE + ";job 0 0 0 a 9;" + others[k]);
                int due = Math.max(9, 8 + k);
                job(c, p, 0, 0, due, due + 9);
                c.answered("longestWait(0)", p, p.longestWait(0), due - 9);
            }
            // All three: the train comes at 20 and the door is free again at 23.
            TrolleyPlanner p = plan("20 to 999", "0 to 999", 0, 0, 999, ONE + ";" + ONE + ";job 0 0 0 a 3;job 1 0 0 a 9");
            job(c, p, 0, 0, 20, 23);
            job(c, p, 1, 0, 23, 32);
            // The arrival is that of the train of the car, at 900 at the latest.
            TrolleyPlanner late = plan("900 to 999", "0 to 999", 0, 0, 999, ONE + ";job 0 1 0 a 1;job 0 0 0 a 99");
            job(c, late, 0, 0, 1, 2);
            job(c, late, 1, 2, 900, 999);
        });
        e.test("Section 3", "Unloading takes UNLOAD units for each meal.", c -> {
            for (int unload = 1; unload <= 5; unload++) {
                for (int meals : new int[] {1, 2, 99}) {
                    TrolleyPlanner p = near("trolley 0 99 1 1 " + unload + ";job 0 0 0 a " + meals);
                    job(c, p, 0, 0, meals, meals + meals * unload);
                    c.answered("doorBusy(0, 0)", p, p.doorBusy(0, 0), meals * unload);
                }
            }
        });
    }

    private static void doors(Edges e) {
        e.test("Section 3", "A door is free until unloading at it begins, and again from the time at which that", c -> {
            // Trolley 0 unloads from 3 to 9; trolley 1 reaches the door at 8, 9 or 10.
            for (int reach = 8; reach <= 10; reach++) {
                TrolleyPlanner p = near("trolley 0 99 1 1 2;" + ONE + ";job 0 0 0 a 3;job 1 0 0 a " + reach);
                int due = Math.max(9, reach);
                job(c, p, 0, 0, 3, 9);
                job(c, p, 1, 0, due, due + reach);
                c.answered("longestWait(1)", p, p.longestWait(1), due - reach);
                c.answered("doorBusy(0, 0)", p, p.doorBusy(0, 0), 6 + reach);
            }
            // It has been used twice when the third one comes, and each time it was free again.
            TrolleyPlanner p = near(ONE + ";" + ONE + ";" + ONE + ";job 0 0 0 a 2;job 1 0 0 a 3;job 2 0 0 a 4");
            job(c, p, 0, 0, 2, 4);
            job(c, p, 1, 0, 4, 7);
            job(c, p, 2, 0, 7, 11);
            // The doors of other cars are free all the time.
            TrolleyPlanner other = near(ONE + ";" + ONE + ";job 0 0 0 a 5;job 1 1 0 a 5");
            job(c, other, 1, 0, 5, 10);
        });
        e.test("Section 3", "A trolley that reaches a door before another one (in this order) unloads before it, or not", c -> {
            // Both wait for the train; the first one has more meals, and still goes first.
            TrolleyPlanner p = plan("50 to 999", "0 to 999", 0, 0, 999, ONE + ";" + ONE + ";job 0 0 0 a 9;job 1 0 0 a 8");
            job(c, p, 1, 0, 50, 58);
            job(c, p, 0, 0, 58, 67);
            TrolleyPlanner equal = plan("50 to 999", "0 to 999", 0, 0, 999, ONE + ";" + ONE + ";job 1 0 0 a 8;job 0 0 0 a 8");
            job(c, equal, 1, 0, 50, 58);
            job(c, equal, 0, 0, 58, 66);
            // The first one cannot unload a meal in time: the second one has the door as if it had not been there.
            TrolleyPlanner not = plan("50 to 54", "0 to 999", 0, 0, 999, "trolley 0 99 1 1 5;" + ONE
                + ";job 0 0 0 a 3;job 1 0 0 a 4");
            job(c, not, 0, 0, -1, 3);
            job(c, not, 1, 0, 50, 54);
            meals(c, not, 1, 4, 4);
            TrolleyPlanner just = plan("50 to 55", "0 to 999", 0, 0, 999, "trolley 0 99 1 1 5;" + ONE
                + ";job 0 0 0 a 3;job 1 0 0 a 4");
            job(c, just, 0, 0, 50, 55);
            meals(c, just, 0, 3, 1);
            job(c, just, 1, 0, -1, 4);
        });
    }

    private static void howMany(Edges e) {
        e.test("Section 3", "The trolley unloads as many of its meals as can be unloaded completely from that beginning", c -> {
            // Three meals, 5 units each, from 3 on.
            int[][] until = {{0, 0}, {2, 0}, {3, 0}, {7, 0}, {8, 1}, {9, 1}, {12, 1}, {13, 2}, {17, 2}, {18, 3}, {19, 3},
                {23, 3}, {999, 3}};
            for (int[] one : until) {
                TrolleyPlanner p = plan("0 to " + one[0], "0 to 999", 0, 0, 999, "trolley 0 99 1 1 5;job 0 0 0 a 3");
                meals(c, p, 0, 3, one[1]);
                job(c, p, 0, 0, one[1] == 0 ? -1 : 3, 3 + 5 * one[1]);
                c.answered("leftBehind(0)", p, p.leftBehind(0), 3 - one[1]);
            }
            // The departure is that of the car's train: the last car of train 0 and the first one of train 1.
            for (int car = 0; car < 5; car++) {
                String cars = "car 0 0 1 1;".repeat(5) + "car 1 0 1 1;".repeat(5);
                TrolleyPlanner p = Texts.plan("train 0 from 0 to 11;train 1 from 14 to 99;" + cars
                    + "meal a 1 1;kitchen 0;stock 0 a 99;" + ONE
                    + ";" + ONE + ";job 0 0 " + car + " a 9;job 1 1 " + car + " a 9");
                meals(c, p, 0, 9, 2);
                job(c, p, 0, 0, 9, 11);
                meals(c, p, 1, 9, 9);
                job(c, p, 1, 0, 14, 23);
            }
            // From a later beginning: 99 meals from 900 on.
            int[][] late = {{900, 0}, {901, 1}, {902, 2}, {998, 98}, {999, 99}};
            for (int[] one : late) {
                TrolleyPlanner p = plan("0 to 999", "900 to " + one[0], 0, 0, 999, ONE + ";job 0 1 0 a 99");
                meals(c, p, 0, 99, one[1]);
            }
            // From the end of another unloading, at 10.
            int[][] door = {{10, 0}, {11, 1}, {12, 2}, {15, 5}, {16, 6}, {17, 6}};
            for (int[] one : door) {
                TrolleyPlanner p = plan("5 to " + one[0], "0 to 999", 0, 0, 999, ONE + ";" + ONE
                    + ";job 0 0 0 a 5;job 1 0 0 a 6");
                meals(c, p, 0, 5, 5);
                meals(c, p, 1, 6, one[1]);
            }
        });
        e.test("Section 3", "If that is none, the trolley walks back at the time at which it reached the door, and the", c -> {
            // It reaches the door at 7, and is back at 11, whenever the train comes.
            for (String train : new String[] {"0 to 0", "0 to 6", "0 to 7", "0 to 11", "7 to 11", "900 to 900", "900 to 904",
                "8 to 12"}) {
                TrolleyPlanner p = plan(train, "0 to 999", 0, 4, 999, "trolley 0 99 1 1 5;" + ONE
                    + ";job 0 0 0 a 3;job 0 1 0 a 1");
                job(c, p, 0, 0, -1, 11);
                c.answered("doorBusy(0, 0)", p, p.doorBusy(0, 0), 0);
                c.answered("stateAt(0, 6)", p, p.stateAt(0, 6), 2);
                c.answered("stateAt(0, 7)", p, p.stateAt(0, 7), 5);
                c.answered("startTime(1)", p, p.startTime(1), 11);
            }
            for (String train : new String[] {"0 to 12", "7 to 12", "8 to 13", "900 to 905"}) {
                TrolleyPlanner p = plan(train, "0 to 999", 0, 4, 999, "trolley 0 99 1 1 5;job 0 0 0 a 3");
                c.answered("unloaded(0)", p, p.unloaded(0), 1);
                c.answered("doorBusy(0, 0)", p, p.doorBusy(0, 0), 5);
            }
            // The door that it waited for in vain is free for the next one from the end of the one before it.
            TrolleyPlanner p = plan("0 to 14", "0 to 999", 0, 0, 999, ONE + ";trolley 0 99 1 1 5;" + ONE
                + ";job 0 0 0 a 5;job 1 0 0 a 6;job 2 0 0 a 7");
            job(c, p, 0, 0, 5, 10);
            job(c, p, 1, 0, -1, 6);
            job(c, p, 2, 0, 10, 14);
            meals(c, p, 2, 7, 4);
        });
    }

    private static void walkingBack(Edges e) {
        e.test("Section 3", "Otherwise it walks back when unloading ends.", c -> {
            TrolleyPlanner p = plan("0 to 999", "0 to 999", 0, 4, 999, "trolley 0 99 1 1 2;job 0 0 0 a 3");
            job(c, p, 0, 0, 7, 17);
            c.answered("stateAt(0, 12)", p, p.stateAt(0, 12), 4);
            c.answered("stateAt(0, 13)", p, p.stateAt(0, 13), 5);
            // One meal of three, until 9: it does not stay until the departure at 10.
            TrolleyPlanner cut = plan("0 to 10", "0 to 999", 0, 4, 999, "trolley 0 99 1 1 2;job 0 0 0 a 3");
            meals(c, cut, 0, 3, 1);
            job(c, cut, 0, 0, 7, 13);
            c.answered("stateAt(0, 9)", cut, cut.stateAt(0, 9), 5);
        });
        e.test("Section 3", "Then the job is finished, and the next job starts.", c -> {
            TrolleyPlanner p = plan("0 to 50", "0 to 50", 0, 4, 30, ONE + Texts.eightJobs(0, 0));
            for (int job = 1; job < 8; job++) {
                c.answered("startTime(" + job + ")", p, p.startTime(job), p.finishTime(job - 1));
            }
            // 1 + 4 + 1 + 4, then 2 + 4 + 2 + 4 and so on: 10 + 12 + 14 = 36; job 3 reaches the door at 44.
            job(c, p, 0, 0, 5, 10);
            job(c, p, 1, 10, 16, 22);
            job(c, p, 2, 22, 29, 36);
            job(c, p, 3, 36, 44, 52);
            job(c, p, 4, 52, -1, 65);
            job(c, p, 7, 94, -1, 110);
            meals(c, p, 7, 8, 0);
            c.answered("finalStock(0, 0)", p, p.finalStock(0, 0), 20);
        });
    }

    // ---- what is left behind

    private static void returning(Edges e) {
        e.test("Section 3", "The meals that were not unloaded are left behind", c -> {
            // Trolley 1 takes all, reaches the door at 10 in vain and is back at 15.
            // Trolley 0 starts its second job at 14, 15 or 16.
            for (int start = 14; start <= 16; start++) {
                // 7 + 7 = 14 and 8 + 8 = 16 units beside the kitchen.
                // With a walk of 1 to the door 6 + 1, a unit of waiting, 6 + 1 = 15 units.
                String firstJob = start == 15 ? "job 0 1 1 b 6" : "job 0 1 0 b " + start / 2;
                TrolleyPlanner p = Texts.plan("train 0 from 0 to 0;train 1 from " + (start == 15 ? 8 : 0) + " to 99;car 0 5 9 9;"
                    + "car 1 0 9 9;car 1 1 9 9;meal a 1 1;meal b 1 1;kitchen 0;stock 0 a 5;stock 0 b 99;" + ONE + ";" + ONE
                    + ";" + firstJob + ";job 1 0 0 a 5;job 0 1 0 a 9");
                c.answered("finishTime(1)", p, p.finishTime(1), 15);
                c.answered("startTime(2)", p, p.startTime(2), start);
                c.answered("loaded(2) at " + start, p, p.loaded(2), start < 15 ? 0 : 5);
                c.answered("finalStock(0, 0)", p, p.finalStock(0, 0), start < 15 ? 5 : 0);
                c.answered("leftBehind(1)", p, p.leftBehind(1), 5);
            }
            // The same with the numbers exchanged: trolley 0 is back at 15, trolley 1 starts its second job at 14.
            TrolleyPlanner sooner = Texts.plan("train 0 from 0 to 0;train 1 from 0 to 99;car 0 5 9 9;car 1 0 9 9;meal a 1 1;"
                + "meal b 1 1;"
                + "kitchen 0;stock 0 a 5;stock 0 b 99;" + ONE + ";" + ONE + ";job 1 1 0 b 7;job 0 0 0 a 5;job 1 1 0 a 9");
            c.answered("finishTime(1)", sooner, sooner.finishTime(1), 15);
            c.answered("startTime(2)", sooner, sooner.startTime(2), 14);
            meals(c, sooner, 2, 0, 0);
            // Only those that were not unloaded return: 2 of 5.
            TrolleyPlanner some = plan("0 to 13", "0 to 999", 0, 5, 5, ONE + ";job 0 0 0 a 5;job 0 1 0 a 9");
            meals(c, some, 0, 5, 3);
            job(c, some, 0, 0, 10, 18);
            meals(c, some, 1, 2, 2);
            // They return to the kitchen of the trolley, and as meals of their kind.
            TrolleyPlanner own = Texts.plan("train 0 from 0 to 0;train 1 from 0 to 99;car 0 5 9 9;car 1 0 9 9;meal a 1 1;"
                + "meal b 1 1;kitchen 0;kitchen 0;stock 1 b 7;trolley 1 9 1 1 1;job 0 0 0 b 4");
            c.answered("finalStock(1, 1)", own, own.finalStock(1, 1), 7);
            c.answered("finalStock(1, 0)", own, own.finalStock(1, 0), 0);
            c.answered("finalStock(0, 1)", own, own.finalStock(0, 1), 0);
            c.answered("leftBehind(0)", own, own.leftBehind(0), 4);
        });
        e.test("Section 3", "Meals return to the stock before anything else that happens at that time", c -> {
            // At 15 trolley 1 or 0 is back with 5 meals and the other one starts a job: it gets them, whichever its number is.
            String text = "train 0 from 0 to 0;train 1 from 8 to 99;car 0 5 9 9;car 1 1 9 9;car 1 0 9 9;meal a 1 1;"
                + "meal b 1 1;kitchen 0;stock 0 a 5;stock 0 b 99;" + ONE + ";" + ONE;
            for (int t = 0; t < 2; t++) {
                TrolleyPlanner p = Texts.plan(text + ";job " + t + " 1 0 b 6;job " + (1 - t) + " 0 0 a 5;job " + t + " 1 1 a 9");
                c.answered("finishTime(1)", p, p.finishTime(1), 15);
                c.answered("startTime(2)", p, p.startTime(2), 15);
                c.answered("loaded(2)", p, p.loaded(2), 5);
            }
            // The door beside the kitchen: the trolley reaches it in vain at 5, when the other one starts a job.
            String near = "train 0 from 0 to 0;train 1 from 3 to 99;car 0 0 9 9;car 1 0 9 9;meal a 1 1;meal b 1 1;kitchen 0;"
                + "stock 0 a 5;stock 0 b 99;" + ONE + ";" + ONE;
            for (int t = 0; t < 2; t++) {
                TrolleyPlanner p = Texts.plan(near + ";job " + t + " 1 0 b 2;job " + (1 - t) + " 0 0 a 5;job " + t + " 1 0 a 9");
                job(c, p, 1, 0, -1, 5);
                c.answered("startTime(2)", p, p.startTime(2), 5);
                // A smaller number reaches the door before the other one starts, a greater one after that.
                c.answered("loaded(2) of trolley " + t, p, p.loaded(2), t == 1 ? 5 : 0);
                c.answered("finalStock(0, 0)", p, p.finalStock(0, 0), t == 1 ? 0 : 5);
            }
            // Something was unloaded beside the kitchen, until 8: then they return before all else at 8.
            String partly = near.replace("train 0 from 0 to 0", "train 0 from 0 to 8").replace("train 1 from 3",
                "train 1 from 4");
            for (int t = 0; t < 2; t++) {
                TrolleyPlanner p = Texts.plan(partly + ";job " + t + " 1 0 b 4;job " + (1 - t) + " 0 0 a 5;job " + t
                    + " 1 0 a 9");
                job(c, p, 1, 0, 5, 8);
                c.answered("startTime(2)", p, p.startTime(2), 8);
                c.answered("loaded(2) of trolley " + t, p, p.loaded(2), 2);
            }
            // Its own next job, at the same time, has them.
            TrolleyPlanner self = Texts.plan(near + ";job 0 0 0 a 5;job 0 0 0 a 9;job 0 1 0 a 9");
            job(c, self, 0, 0, -1, 5);
            job(c, self, 1, 5, -1, 10);
            job(c, self, 2, 10, 15, 20);
        });
    }

    private static void orderOfEvents(Edges e) {
        e.test("Section 3", "Starts of jobs and reachings of doors are processed in the order of their times", c -> {
            // Starts at the same time: the smaller number takes first.
            TrolleyPlanner starts = plan("0 to 999", "0 to 999", 0, 0, 5, ONE + ";" + ONE + ";" + ONE
                + ";job 2 0 0 a 3;job 1 0 0 a 3;job 0 0 0 a 1");
            meals(c, starts, 2, 1, 1);
            meals(c, starts, 1, 3, 3);
            meals(c, starts, 0, 1, 1);
            // A start before another one: trolley 1 at 4, trolley 0 at 5 or 4.
            for (int meals = 2; meals <= 3; meals++) {
                TrolleyPlanner p = plan("0 to 999", "0 to 999", 0, 0, 3, ONE + ";" + ONE + ";job 1 1 0 b 2;job 0 0 0 b " + meals
                    + ";job 1 1 0 a 9;job 0 0 0 a 9");
                c.answered("startTime(2)", p, p.startTime(2), 4);
                c.answered("startTime(3)", p, p.startTime(3), 2 * meals);
                meals(c, p, 2, meals == 2 ? 0 : 3, meals == 2 ? 0 : 3);
                meals(c, p, 3, meals == 2 ? 3 : 0, meals == 2 ? 3 : 0);
            }
            // Doors are reached at the same time: the smaller number goes first; one unit sooner: the sooner one.
            TrolleyPlanner same = near(ONE + ";" + ONE + ";job 1 0 0 a 5;job 0 0 0 a 5");
            job(c, same, 1, 0, 5, 10);
            job(c, same, 0, 0, 10, 15);
            TrolleyPlanner sooner = near(ONE + ";" + ONE + ";job 1 0 0 a 4;job 0 0 0 a 5");
            job(c, sooner, 0, 0, 4, 8);
            job(c, sooner, 1, 0, 8, 13);
            // Five trolleys at once.
            TrolleyPlanner five = near((ONE + ";").repeat(5)
                + "job 4 0 0 a 2;job 3 0 0 a 2;job 2 0 0 a 2;job 1 0 0 a 2;job 0 0 0 a 2");
            for (int job = 0; job < 5; job++) {
                c.answered("unloadTime(" + job + ")", five, five.unloadTime(job), 2 + 2 * (4 - job));
            }
        });
    }

    private SimulationEdges() {
    }
}
