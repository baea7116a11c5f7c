/** Promises 16 to 29: the simulation. */
public final class SimulationTest {
    private static final Checks CHECKS = new Checks("SimulationTest");
    private static final String TRAINS = "train 0 from 10 to 60;train 1 from 20 to 80;";
    private static final String ONE_TROLLEY = Texts.SMALL + ";job 0 0 0 soup 5;job 0 1 0 soup 25;job 0 1 0 soup 30";

    public static void main(String[] args) {
        withoutAPlan();
        wrongIndices();
        timesOfOneTrolley();
        mealsOfOneTrolley();
        activitiesOfOneTrolley();
        mealsOnOneTrolley();
        waitingForTheTrain();
        waitingForTheDoor();
        everyCarHasItsOwnDoor();
        unloadingUntilTheDeparture();
        nothingToLoad();
        theSmallerTrolleyTakesFirst();
        mealsReturnBeforeAllElse();
        mealsReturnWhenTheReachingIsProcessed();
        mealsReturnNoSooner();
        walkingIsRoundedUp();
        aWaitForOneMeal();
        kitchensOfTheirOwn();
        twentyJobs();
        CHECKS.end();
    }

    private static void withoutAPlan() {
        TrolleyPlanner p = new TrolleyPlanner();
        CHECKS.refused("startTime(0)", p, p.startTime(0), 1);
        CHECKS.refused("loaded(0)", p, p.loaded(0), 1);
        CHECKS.refused("unloaded(0)", p, p.unloaded(0), 1);
        CHECKS.refused("unloadTime(0)", p, p.unloadTime(0), 1);
        CHECKS.refused("finishTime(0)", p, p.finishTime(0), 1);
        CHECKS.refused("delivered(0, 0, 0)", p, p.delivered(0, 0, 0), 1);
        CHECKS.refused("deliveredTotal()", p, p.deliveredTotal(), 1);
        CHECKS.refused("leftBehind(0)", p, p.leftBehind(0), 1);
        CHECKS.refused("finalStock(0, 0)", p, p.finalStock(0, 0), 1);
        CHECKS.refused("shortage(0, 0, 0)", p, p.shortage(0, 0, 0), 1);
        CHECKS.refused("longestWait(0)", p, p.longestWait(0), 1);
        CHECKS.refused("doorBusy(0, 0)", p, p.doorBusy(0, 0), 1);
        CHECKS.refused("stateAt(0, -1)", p, p.stateAt(0, -1), 1);
        CHECKS.refused("mealsOn(0, -1)", p, p.mealsOn(0, -1), 1);
    }

    private static void wrongIndices() {
        TrolleyPlanner p = Texts.plan(ONE_TROLLEY);
        for (int wrong : new int[] {-1, 3, 20, Integer.MAX_VALUE, Integer.MIN_VALUE}) {
            CHECKS.refused("startTime(" + wrong + ")", p, p.startTime(wrong), 1);
            CHECKS.refused("loaded(" + wrong + ")", p, p.loaded(wrong), 1);
            CHECKS.refused("unloaded(" + wrong + ")", p, p.unloaded(wrong), 1);
            CHECKS.refused("unloadTime(" + wrong + ")", p, p.unloadTime(wrong), 1);
            CHECKS.refused("finishTime(" + wrong + ")", p, p.finishTime(wrong), 1);
        }
        for (int wrong : new int[] {-1, 1, 5, Integer.MAX_VALUE, Integer.MIN_VALUE}) {
            CHECKS.refused("leftBehind(" + wrong + ")", p, p.leftBehind(wrong), 1);
            CHECKS.refused("longestWait(" + wrong + ")", p, p.longestWait(wrong), 1);
            CHECKS.refused("stateAt(" + wrong + ", 0)", p, p.stateAt(wrong, 0), 1);
            CHECKS.refused("mealsOn(" + wrong + ", 0)", p, p.mealsOn(wrong, 0), 1);
            CHECKS.refused("finalStock(" + wrong + ", 0)", p, p.finalStock(wrong, 0), 1);
            CHECKS.refused("finalStock(0, " + wrong + ")", p, p.finalStock(0, wrong), 1);
            CHECKS.refused("doorBusy(0, " + wrong + ")", p, p.doorBusy(0, wrong), 1);
            CHECKS.refused("delivered of car " + wrong, p, p.delivered(0, wrong, 0), 1);
            CHECKS.refused("delivered of meal " + wrong, p, p.delivered(0, 0, wrong), 1);
            CHECKS.refused("shortage of car " + wrong, p, p.shortage(0, wrong, 0), 1);
            CHECKS.refused("shortage of meal " + wrong, p, p.shortage(0, 0, wrong), 1);
        }
        CHECKS.refused("doorBusy(2, 0)", p, p.doorBusy(2, 0), 1);
        CHECKS.refused("delivered(2, 0, 0)", p, p.delivered(2, 0, 0), 1);
        CHECKS.refused("shortage(-1, 0, 0)", p, p.shortage(-1, 0, 0), 1);
        CHECKS.refused("stateAt(0, -1)", p, p.stateAt(0, -1), 2);
        CHECKS.refused("stateAt(0, 10000)", p, p.stateAt(0, 10000), 2);
        CHECKS.refused("mealsOn(0, -1)", p, p.mealsOn(0, -1), 2);
        CHECKS.refused("mealsOn(0, 10000)", p, p.mealsOn(0, 10000), 2);
        CHECKS.refused("mealsOn(1, 10000)", p, p.mealsOn(1, 10000), 1);
    }

    private static void times(TrolleyPlanner p, int job, int start, int unload, int finish) {
        CHECKS.answered("startTime(" + job + ")", p, p.startTime(job), start);
        if (unload < 0) {
            CHECKS.refused("unloadTime(" + job + ")", p, p.unloadTime(job), 6);
        } else {
            CHECKS.answered("unloadTime(" + job + ")", p, p.unloadTime(job), unload);
        }
        CHECKS.answered("finishTime(" + job + ")", p, p.finishTime(job), finish);
    }

    private static void meals(TrolleyPlanner p, int job, int loaded, int unloaded) {
        CHECKS.answered("loaded(" + job + ")", p, p.loaded(job), loaded);
        CHECKS.answered("unloaded(" + job + ")", p, p.unloaded(job), unloaded);
    }

    private static void timesOfOneTrolley() {
        TrolleyPlanner p = Texts.plan(ONE_TROLLEY);
        times(p, 0, 0, 15, 30);
        times(p, 1, 30, 60, 90);
        times(p, 2, 90, -1, 125);
        CHECKS.answered("longestWait(0)", p, p.longestWait(0), 0);
    }

    private static void mealsOfOneTrolley() {
        TrolleyPlanner p = Texts.plan(ONE_TROLLEY);
        meals(p, 0, 5, 5);
        meals(p, 1, 20, 20);
        meals(p, 2, 15, 0);
        CHECKS.answered("delivered(0, 0, 0)", p, p.delivered(0, 0, 0), 5);
        CHECKS.answered("delivered(1, 0, 0)", p, p.delivered(1, 0, 0), 20);
        CHECKS.answered("deliveredTotal()", p, p.deliveredTotal(), 25);
        CHECKS.answered("leftBehind(0)", p, p.leftBehind(0), 15);
        CHECKS.answered("finalStock(0, 0)", p, p.finalStock(0, 0), 15);
        CHECKS.answered("stock(0, 0)", p, p.stock(0, 0), 40);
        CHECKS.answered("shortage(0, 0, 0)", p, p.shortage(0, 0, 0), 15);
        CHECKS.answered("shortage(1, 0, 0)", p, p.shortage(1, 0, 0), 0);
        CHECKS.answered("doorBusy(0, 0)", p, p.doorBusy(0, 0), 5);
        CHECKS.answered("doorBusy(1, 0)", p, p.doorBusy(1, 0), 20);
    }

    private static void activitiesOfOneTrolley() {
        TrolleyPlanner p = Texts.plan(ONE_TROLLEY);
        int[][] due = {{0, 1}, {4, 1}, {5, 2}, {14, 2}, {15, 4}, {19, 4}, {20, 5}, {29, 5}, {30, 1}, {49, 1}, {50, 2},
            {59, 2}, {60, 4}, {79, 4}, {80, 5}, {89, 5}, {90, 1}, {104, 1}, {105, 2}, {114, 2}, {115, 5}, {124, 5}, {125, 0},
            {9999, 0}};
        for (int[] d : due) {
            CHECKS.answered("stateAt(0, " + d[0] + ")", p, p.stateAt(0, d[0]), d[1]);
        }
    }

    private static void mealsOnOneTrolley() {
        TrolleyPlanner p = Texts.plan(ONE_TROLLEY);
        int[][] due = {{0, 0}, {3, 3}, {5, 5}, {14, 5}, {15, 5}, {17, 3}, {19, 1}, {20, 0}, {29, 0}, {30, 0}, {31, 1},
            {110, 15}, {115, 15}, {124, 15}, {125, 0}, {9999, 0}};
        for (int[] d : due) {
            CHECKS.answered("mealsOn(0, " + d[0] + ")", p, p.mealsOn(0, d[0]), d[1]);
        }
        TrolleyPlanner slow = Texts.plan(Texts.SMALL.replace("trolley 0 20 1 1 1", "trolley 0 20 1 3 4") + ";job 0 0 0 soup 2");
        int[][] slowDue = {{2, 0}, {3, 1}, {5, 1}, {6, 2}, {16, 2}, {19, 2}, {20, 1}, {23, 1}, {24, 0}, {33, 0}};
        for (int[] d : slowDue) {
            CHECKS.answered("slow mealsOn(0, " + d[0] + ")", slow, slow.mealsOn(0, d[0]), d[1]);
        }
    }

    private static void waitingForTheTrain() {
        TrolleyPlanner p = Texts.plan(ONE_TROLLEY.replace("train 0 from 10", "train 0 from 40"));
        times(p, 0, 0, 40, 55);
        CHECKS.answered("longestWait(0)", p, p.longestWait(0), 25);
        CHECKS.answered("doorBusy(0, 0)", p, p.doorBusy(0, 0), 5);
        CHECKS.answered("stateAt(0, 15)", p, p.stateAt(0, 15), 3);
        CHECKS.answered("stateAt(0, 39)", p, p.stateAt(0, 39), 3);
        CHECKS.answered("stateAt(0, 40)", p, p.stateAt(0, 40), 4);
        CHECKS.answered("mealsOn(0, 39)", p, p.mealsOn(0, 39), 5);
        // A train that leaves when it comes takes nothing, and no trolley waits for it.
        TrolleyPlanner gone = Texts.plan(ONE_TROLLEY.replace("train 0 from 10 to 60", "train 0 from 60 to 60"));
        times(gone, 0, 0, -1, 25);
        CHECKS.answered("longestWait(0)", gone, gone.longestWait(0), 0);
        CHECKS.answered("stateAt(0, 15)", gone, gone.stateAt(0, 15), 5);
        CHECKS.answered("doorBusy(0, 0)", gone, gone.doorBusy(0, 0), 0);
    }

    private static void waitingForTheDoor() {
        String text = Texts.SMALL.replace("trolley 0 20 1 1 1", "trolley 0 20 1 1 2") + ";trolley 0 20 1 1 1"
            + ";job 1 0 0 soup 5;job 0 0 0 soup 5";
        TrolleyPlanner p = Texts.plan(text);
        times(p, 1, 0, 15, 35);
        times(p, 0, 0, 25, 40);
        CHECKS.answered("longestWait(1)", p, p.longestWait(1), 10);
        CHECKS.answered("longestWait(0)", p, p.longestWait(0), 0);
        CHECKS.answered("doorBusy(0, 0)", p, p.doorBusy(0, 0), 15);
        CHECKS.answered("delivered(0, 0, 0)", p, p.delivered(0, 0, 0), 10);
        // The trolley that cannot unload at all does not occupy the door.
        TrolleyPlanner late = Texts.plan(text.replace("to 60", "to 16"));
        times(late, 1, 0, -1, 25);
        times(late, 0, 0, 15, 26);
        meals(late, 0, 5, 1);
    }

    private static void everyCarHasItsOwnDoor() {
        TrolleyPlanner p = Texts.plan(TRAINS + "car 0 10 20 0;car 0 10 20 0;car 1 10 0 30;meal soup 10 5;kitchen 0;"
            + "stock 0 soup 40;trolley 0 20 1 1 1;trolley 0 20 1 1 1;job 0 0 0 soup 5;job 1 0 1 soup 5");
        times(p, 0, 0, 15, 30);
        times(p, 1, 0, 15, 30);
        CHECKS.answered("doorBusy(0, 1)", p, p.doorBusy(0, 1), 5);
    }

    private static void unloadingUntilTheDeparture() {
        String text = Texts.SMALL.replace("trolley 0 20 1 1 1", "trolley 0 20 1 1 2") + ";job 0 0 0 soup 5";
        TrolleyPlanner p = Texts.plan(text.replace("to 60", "to 20"));
        meals(p, 0, 5, 2);
        times(p, 0, 0, 15, 29);
        CHECKS.answered("stateAt(0, 18)", p, p.stateAt(0, 18), 4);
        CHECKS.answered("stateAt(0, 19)", p, p.stateAt(0, 19), 5);
        CHECKS.answered("mealsOn(0, 18)", p, p.mealsOn(0, 18), 4);
        CHECKS.answered("mealsOn(0, 20)", p, p.mealsOn(0, 20), 3);
        CHECKS.answered("leftBehind(0)", p, p.leftBehind(0), 3);
        CHECKS.answered("finalStock(0, 0)", p, p.finalStock(0, 0), 38);
        meals(Texts.plan(text.replace("to 60", "to 21")), 0, 5, 3);
        meals(Texts.plan(text.replace("to 60", "to 16")), 0, 5, 0);
        meals(Texts.plan(text.replace("to 60", "to 10")), 0, 5, 0);
    }

    private static void nothingToLoad() {
        TrolleyPlanner p = Texts.plan(Texts.SMALL.replace("stock 0 soup 40", "stock 0 soup 0")
            + ";meal tea 1 1;stock 0 tea 9;job 0 0 0 soup 5;job 0 0 0 tea 5;job 0 0 0 soup 5");
        times(p, 0, 0, -1, 0);
        times(p, 1, 0, 15, 30);
        times(p, 2, 30, -1, 30);
        meals(p, 0, 0, 0);
        CHECKS.answered("stateAt(0, 0)", p, p.stateAt(0, 0), 1);
        CHECKS.answered("stateAt(0, 30)", p, p.stateAt(0, 30), 0);
        CHECKS.answered("leftBehind(0)", p, p.leftBehind(0), 0);
        CHECKS.answered("finalStock(0, 1)", p, p.finalStock(0, 1), 4);
        // Nothing is left of what the jobs did before the stock was taken away.
        p.setStock(0, 1, 0);
        meals(p, 1, 0, 0);
        times(p, 1, 0, -1, 0);
        CHECKS.answered("doorBusy(0, 0)", p, p.doorBusy(0, 0), 0);
        CHECKS.answered("delivered(0, 0, 1)", p, p.delivered(0, 0, 1), 0);
    }

    private static void theSmallerTrolleyTakesFirst() {
        TrolleyPlanner p = Texts.plan(Texts.SMALL.replace("stock 0 soup 40", "stock 0 soup 8")
            + ";trolley 0 20 1 1 1;job 1 0 0 soup 5;job 0 1 0 soup 5");
        meals(p, 0, 3, 3);
        meals(p, 1, 5, 5);
    }

    private static void mealsReturnBeforeAllElse() {
        // Trolley 1 is back at 30 with 5 meals, when trolley 0 starts its second job.
        TrolleyPlanner p = Texts.plan("train 0 from 10 to 10;train 1 from 0 to 80;car 0 10 20 0;car 1 10 0 30;meal soup 10 5;"
            + "kitchen 0;stock 0 soup 10;trolley 0 20 1 1 1;trolley 0 20 1 2 1;"
            + "job 0 1 0 soup 5;job 1 0 0 soup 5;job 0 1 0 soup 7");
        times(p, 0, 0, 15, 30);
        times(p, 1, 0, -1, 30);
        meals(p, 2, 5, 5);
    }

    private static void mealsReturnWhenTheReachingIsProcessed() {
        // At 10 one trolley reaches the door beside the kitchen in vain, and the other starts its second job.
        String text = "train 0 from 0 to 0;train 1 from 0 to 80;car 0 0 20 0;car 1 0 0 30;meal soup 10 5;"
            + "kitchen 0;stock 0 soup 10;";
        TrolleyPlanner after = Texts.plan(text + "trolley 0 20 1 1 1;trolley 0 20 1 2 1;"
            + "job 0 1 0 soup 5;job 1 0 0 soup 5;job 0 1 0 soup 7");
        times(after, 1, 0, -1, 10);
        times(after, 2, 10, -1, 10);
        meals(after, 2, 0, 0);
        TrolleyPlanner before = Texts.plan(text + "trolley 0 20 1 2 1;trolley 0 20 1 1 1;"
            + "job 1 1 0 soup 5;job 0 0 0 soup 5;job 1 1 0 soup 7");
        meals(before, 2, 5, 5);
        CHECKS.answered("finalStock(0, 0)", before, before.finalStock(0, 0), 0);
    }

    private static void walkingIsRoundedUp() {
        int[] finish = {30, 20, 18, 16, 14, 14, 14, 14, 14};
        for (int speed = 1; speed <= 9; speed++) {
            TrolleyPlanner p = Texts.plan("train 0 from 0 to 60;train 1 from 20 to 80;car 0 3 20 0;car 1 10 0 30;meal soup 10 5;"
                + "kitchen 13;stock 0 soup 40;trolley 0 20 " + speed + " 1 1;job 0 0 0 soup 5");
            CHECKS.answered("finishTime(0) with speed " + speed, p, p.finishTime(0), finish[speed - 1]);
        }
    }

    private static void mealsReturnNoSooner() {
        // Trolley 1 is back at 30 with 5 meals; trolley 0 starts its second job before that, or then.
        String text = "train 0 from 10 to 10;train 1 from 0 to 80;car 0 10 20 0;car 1 10 0 30;car 1 9 0 30;meal soup 10 5;"
            + "kitchen 0;stock 0 soup 10;trolley 0 20 9 1 1;trolley 0 20 1 2 1;";
        for (int early = 1; early <= 8; early++) {
            // 5 meals loaded, 2 units of walk, unloaded and 2 units back: 14; the others wait for train 1.
            TrolleyPlanner p = Texts.plan(text.replace("train 1 from 0", "train 1 from " + (24 - early))
                + "job 0 1 0 soup 5;job 1 0 0 soup 5;job 0 1 0 soup 7");
            times(p, 1, 0, -1, 30);
            CHECKS.answered("startTime(2)", p, p.startTime(2), 31 - early);
            CHECKS.answered("loaded(2) from " + (31 - early), p, p.loaded(2), early == 1 ? 5 : 0);
        }
        // The same with the trolleys' numbers exchanged, and partly unloaded meals.
        TrolleyPlanner partly = Texts.plan("train 0 from 10 to 21;train 1 from 0 to 80;car 0 10 20 0;car 1 10 0 30;meal soup 10 5;"
            + "kitchen 0;stock 0 soup 10;trolley 0 20 1 2 1;trolley 0 20 1 1 1;"
            + "job 1 1 0 soup 5;job 0 0 0 soup 5;job 1 1 0 soup 7");
        meals(partly, 1, 5, 1);
        times(partly, 1, 0, 20, 31);
        times(partly, 2, 30, -1, 30);
        CHECKS.answered("finalStock(0, 0)", partly, partly.finalStock(0, 0), 4);
    }

    private static void aWaitForOneMeal() {
        TrolleyPlanner p = Texts.plan(Texts.SMALL.replace("train 1 from 20", "train 1 from 30") + ";job 0 1 0 soup 1");
        CHECKS.answered("longestWait(0)", p, p.longestWait(0), 19);
        CHECKS.due("served(0)", p.served(0), 0);
    }

    private static void kitchensOfTheirOwn() {
        TrolleyPlanner p = Texts.plan(TRAINS + "car 0 10 20 0;car 1 10 0 30;meal soup 10 5;meal tea 1 1;kitchen 0;kitchen 8;"
            + "stock 0 soup 4;stock 1 soup 3;stock 1 tea 2;trolley 1 20 1 1 1;trolley 0 20 1 1 1;"
            + "job 0 0 0 soup 9;job 1 0 0 soup 9;job 0 1 0 tea 9;job 1 1 0 tea 9");
        meals(p, 0, 3, 3);
        meals(p, 1, 4, 4);
        meals(p, 2, 2, 2);
        meals(p, 3, 0, 0);
        times(p, 0, 0, 10, 15);
        times(p, 1, 0, 14, 28);
        times(p, 2, 15, 20, 24);
        CHECKS.answered("delivered(1, 0, 1)", p, p.delivered(1, 0, 1), 2);
        CHECKS.answered("delivered(1, 0, 0)", p, p.delivered(1, 0, 0), 0);
        CHECKS.answered("finalStock(1, 0)", p, p.finalStock(1, 0), 0);
    }

    private static void twentyJobs() {
        // Every job leaves something behind, so that each has its start, its door and its return.
        StringBuilder text = new StringBuilder("train 0 from 0 to 0;train 1 from 0 to 80;car 0 1 20 0;car 1 10 0 30;"
            + "meal soup 10 5;kitchen 0;stock 0 soup 99;trolley 0 20 1 1 1;trolley 0 20 1 1 1;trolley 0 20 1 1 1");
        for (int job = 0; job < 20; job++) {
            text.append(";job ").append(job % 3).append(" 0 0 soup 1");
        }
        TrolleyPlanner p = Texts.plan(text.toString());
        for (int job = 0; job < 20; job++) {
            times(p, job, job / 3 * 3, -1, job / 3 * 3 + 3);
            meals(p, job, 1, 0);
        }
        CHECKS.answered("finalStock(0, 0)", p, p.finalStock(0, 0), 99);
    }

    private SimulationTest() {
    }
}
