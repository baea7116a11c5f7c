/** Promises 36 to 39: best sets of jobs. */
public final class BestSetTest {
    private static final Checks CHECKS = new Checks("BestSetTest");
    /** The doors stand at the kitchen, so that a job of q meals takes 2 q units. */
    private static final String NEAR = "train 0 from 0 to 20;train 1 from 0 to 10;car 0 0 1 0;car 1 0 1 0;meal a 10 0;"
        + "kitchen 0;trolley 0 9 1 1 1;trolley 0 9 1 1 1";

    public static void main(String[] args) {
        withoutAPlan();
        wrongIndices();
        noJobs();
        mostMeals();
        equalSets();
        theOrderMatters();
        theSmallestOrder();
        capacityAndStock();
        waitingAndWalking();
        eightJobs();
        speeds();
        eachQuestionLooksAnew();
        CHECKS.end();
    }

    private static void withoutAPlan() {
        TrolleyPlanner p = new TrolleyPlanner();
        CHECKS.refused("bestSet(0)", p, p.bestSet(0), 1);
        CHECKS.refused("bestMeals(0)", p, p.bestMeals(0), 1);
        CHECKS.refused("bestOrder(0, -1)", p, p.bestOrder(0, -1), 1);
        CHECKS.refused("leastSpeed(0)", p, p.leastSpeed(0), 1);
    }

    private static void wrongIndices() {
        TrolleyPlanner p = Texts.plan(NEAR + ";job 0 0 0 a 1");
        for (int wrong : new int[] {-1, 2, 5, Integer.MAX_VALUE, Integer.MIN_VALUE}) {
            CHECKS.refused("bestSet(" + wrong + ")", p, p.bestSet(wrong), 1);
            CHECKS.refused("bestMeals(" + wrong + ")", p, p.bestMeals(wrong), 1);
            CHECKS.refused("bestOrder(" + wrong + ", 0)", p, p.bestOrder(wrong, 0), 1);
            CHECKS.refused("leastSpeed(" + wrong + ")", p, p.leastSpeed(wrong), 1);
        }
        for (int wrong : new int[] {-1, 1, 8, Integer.MAX_VALUE, Integer.MIN_VALUE}) {
            CHECKS.refused("bestOrder(0, " + wrong + ")", p, p.bestOrder(0, wrong), 6);
        }
    }

    private static void best(TrolleyPlanner p, int trolley, int set, int meals, int... order) {
        CHECKS.answered("bestSet(" + trolley + ")", p, p.bestSet(trolley), set);
        CHECKS.answered("bestMeals(" + trolley + ")", p, p.bestMeals(trolley), meals);
        for (int place = 0; place < order.length; place++) {
            CHECKS.answered("bestOrder(" + trolley + ", " + place + ")", p, p.bestOrder(trolley, place), order[place]);
        }
        CHECKS.refused("bestOrder(" + trolley + ", " + order.length + ")", p, p.bestOrder(trolley, order.length), 6);
    }

    private static void noJobs() {
        TrolleyPlanner p = Texts.plan(NEAR + ";job 0 0 0 a 1");
        best(p, 1, 0, 0);
        best(p, 0, 1, 1, 0);
    }

    private static void mostMeals() {
        best(Texts.plan(NEAR + ";job 0 0 0 a 5;job 0 0 0 a 5;job 0 0 0 a 6"), 0, 3, 10, 0, 1);
        best(Texts.plan(NEAR + ";job 0 0 0 a 5;job 1 0 0 a 5;job 0 0 0 a 6;job 0 0 0 a 4"), 0, 6, 10, 2, 3);
        best(Texts.plan(NEAR + ";job 0 0 0 a 2;job 0 0 0 a 9;job 0 0 0 a 3"), 0, 2, 9, 1);
        best(Texts.plan(NEAR + ";job 1 1 0 a 6"), 1, 0, 0);
    }

    private static void equalSets() {
        best(Texts.plan(NEAR + ";job 0 0 0 a 5;job 0 0 0 a 5;job 0 0 0 a 5"), 0, 3, 10, 0, 1);
        best(Texts.plan(NEAR + ";job 0 0 0 a 1;job 0 0 0 a 9;job 0 0 0 a 7;job 0 0 0 a 3"), 0, 3, 10, 0, 1);
    }

    private static void theOrderMatters() {
        best(Texts.plan(NEAR + ";job 0 0 0 a 5;job 0 1 0 a 5"), 0, 3, 10, 1, 0);
        best(Texts.plan(NEAR + ";job 0 0 0 a 5;job 0 1 0 a 3;job 0 1 0 a 2"), 0, 7, 10, 1, 2, 0);
    }

    private static void theSmallestOrder() {
        best(Texts.plan(NEAR + ";job 0 0 0 a 2;job 0 1 0 a 3;job 0 0 0 a 5"), 0, 7, 10, 0, 1, 2);
        best(Texts.plan(NEAR + ";job 0 0 0 a 3;job 0 1 0 a 3;job 0 0 0 a 4"), 0, 7, 10, 1, 0, 2);
        best(Texts.plan(NEAR + ";job 0 0 0 a 3;job 0 0 0 a 2;job 0 1 0 a 3"), 0, 7, 8, 1, 2, 0);
        // Job 1 could come before job 2 from 0 on, but no more behind job 0.
        best(Texts.plan(NEAR + ";job 0 0 0 a 2;job 0 0 0 a 2;job 0 1 0 a 2"), 0, 7, 6, 0, 2, 1);
        best(Texts.plan(NEAR + ";job 0 0 0 a 2;job 0 0 0 a 1;job 0 1 0 a 2"), 0, 7, 5, 0, 1, 2);
        // The same with a walk of 1: job 0 is finished at 4, and job 1 would have to start by 3.
        String walk = NEAR.replace("car 0 0", "car 0 1").replace("car 1 0", "car 1 1").replace("to 10", "to 12");
        best(Texts.plan(walk + ";job 0 0 0 a 1;job 0 0 0 a 1;job 0 1 0 a 2"), 0, 7, 4, 0, 2, 1);
    }

    private static void capacityAndStock() {
        TrolleyPlanner p = Texts.plan(NEAR.replace("trolley 0 9", "trolley 0 4") + ";job 0 0 0 a 30;job 0 0 0 a 99");
        best(p, 0, 3, 8, 0, 1);
        // All stocks are unlimited there, and no other trolley moves.
        CHECKS.answered("deliveredTotal()", p, p.deliveredTotal(), 0);
        TrolleyPlanner crowded = Texts.plan(NEAR + ";stock 0 a 50;job 1 0 0 a 9;job 0 0 0 a 9");
        best(crowded, 0, 1, 9, 1);
        best(crowded, 1, 1, 9, 0);
    }

    private static void waitingAndWalking() {
        // A job begins to unload when its train has come; the way back takes its time, but not from the last departure.
        String text = "train 0 from 15 to 20;train 1 from 0 to 38;car 0 5 1 0;car 1 5 1 0;meal a 10 0;kitchen 0;trolley 0 9 1 1 1;"
            + "job 0 0 0 a 5;job 0 1 0 a 4";
        best(Texts.plan(text), 0, 3, 9, 0, 1);
        best(Texts.plan(text.replace("to 38", "to 37")), 0, 1, 5, 0);
        best(Texts.plan(text.replace("to 38", "to 37").replace("a 5;", "a 4;")), 0, 3, 8, 0, 1);
        best(Texts.plan(text.replace("to 38", "to 36").replace("a 5;", "a 4;")), 0, 1, 4, 0);
        best(Texts.plan(text.replace("job 0 1 0 a 4", "job 0 1 0 a 5")), 0, 1, 5, 0);
        best(Texts.plan(text.replace("to 20", "to 19")), 0, 2, 4, 1);
    }

    private static void eightJobs() {
        StringBuilder text = new StringBuilder(NEAR.replace("to 20", "to 72"));
        for (int job = 0; job < 8; job++) {
            text.append(";job 0 0 0 a ").append(job + 1);
        }
        best(Texts.plan(text.toString()), 0, 255, 36, 0, 1, 2, 3, 4, 5, 6, 7);
        best(Texts.plan(text.toString().replace("to 72", "to 71")), 0, 254, 35, 1, 2, 3, 4, 5, 6, 7);
    }

    private static void speeds() {
        String text = "train 0 from 0 to 6;train 1 from 0 to 80;car 0 10 1 0;car 1 90 1 0;meal a 10 0;kitchen 0;trolley 0 9 9 1 1;"
            + "trolley 0 9 9 1 1;job 0 0 0 a 1";
        TrolleyPlanner p = Texts.plan(text);
        CHECKS.answered("leastSpeed(0)", p, p.leastSpeed(0), 3);
        CHECKS.answered("leastSpeed(1) without jobs", p, p.leastSpeed(1), 1);
        p.setDeparture(0, 4);
        CHECKS.answered("leastSpeed(0) until 4", p, p.leastSpeed(0), 5);
        p.setDeparture(0, 3);
        CHECKS.refused("leastSpeed(0) until 3", p, p.leastSpeed(0), 6);
        TrolleyPlanner far = Texts.plan(text.replace("car 0 10", "car 0 81").replace("to 6;", "to 11;"));
        CHECKS.answered("leastSpeed(0), the greatest one", far, far.leastSpeed(0), 9);
        p.setDeparture(0, 12);
        CHECKS.answered("leastSpeed(0) until 12", p, p.leastSpeed(0), 1);
        p.addJob(0, 1, 0, 0, 2);
        // With speed 2: back at 12, away at 14, at the door at 59, done at 61; with speed 1 at 116.
        CHECKS.answered("leastSpeed(0) with two jobs", p, p.leastSpeed(0), 2);
        p.setDeparture(0, 4);
        p.setDeparture(1, 26);
        CHECKS.answered("leastSpeed(0) with little time", p, p.leastSpeed(0), 6);
    }

    private static void eachQuestionLooksAnew() {
        TrolleyPlanner p = Texts.plan(NEAR + ";job 1 0 0 a 2;job 0 0 0 a 3;job 0 1 0 a 5");
        CHECKS.answered("bestMeals(0)", p, p.bestMeals(0), 8);
        CHECKS.answered("bestMeals(1)", p, p.bestMeals(1), 2);
        CHECKS.answered("bestOrder(0, 0)", p, p.bestOrder(0, 0), 2);
        CHECKS.answered("bestOrder(1, 0)", p, p.bestOrder(1, 0), 0);
        p.setDeparture(1, 9);
        CHECKS.answered("bestOrder(0, 0)", p, p.bestOrder(0, 0), 1);
        p.setQuantity(1, 4);
        CHECKS.answered("bestMeals(0)", p, p.bestMeals(0), 4);
    }

    private BestSetTest() {
    }
}
