/** Promises 30 to 35: sharing out. Every door stands at the kitchen, so that each job delivers its quantity. */
public final class SharingTest {
    private static final Checks CHECKS = new Checks("SharingTest");
    private static final String TRAINS = "train 0 from 0 to 999;train 1 from 0 to 999;";
    private static final String REST = "kitchen 0;stock 0 a 999;stock 0 b 999;trolley 0 99 1 1 1";
    private static final String EVEN = TRAINS + "car 0 0 3 0;car 0 0 3 0;car 0 0 3 0;car 1 0 3 0;meal a 10 0;meal b 0 10;" + REST;

    public static void main(String[] args) {
        withoutAPlan();
        wrongIndices();
        equalFractions();
        largestRemainders();
        fractionsOfTheWholeDemand();
        enoughForAll();
        jointly();
        coverages();
        leastCoverages();
        betterServed();
        CHECKS.end();
    }

    private static void withoutAPlan() {
        TrolleyPlanner p = new TrolleyPlanner();
        CHECKS.refused("share(0, 0, 0)", p, p.share(0, 0, 0), 1);
        CHECKS.refused("carried(0, 0)", p, p.carried(0, 0), 1);
        CHECKS.refused("jointShare(0, 0, 0)", p, p.jointShare(0, 0, 0), 1);
        CHECKS.refusedLong("coverage(0, 0, true)", p, p.coverage(0, 0, true), 1);
        CHECKS.refusedLong("leastCoverage(0, true)", p, p.leastCoverage(0, true), 1);
        CHECKS.refused("betterServed(0)", p, p.betterServed(0), 1);
    }

    private static void wrongIndices() {
        TrolleyPlanner p = Texts.plan(EVEN);
        for (int wrong : new int[] {-1, 3, 5, Integer.MAX_VALUE, Integer.MIN_VALUE}) {
            CHECKS.refused("share of train " + wrong, p, p.share(wrong, 0, 0), 1);
            CHECKS.refused("share of car " + wrong, p, p.share(0, wrong, 0), 1);
            CHECKS.refused("share of meal " + wrong, p, p.share(0, 0, wrong), 1);
            CHECKS.refused("jointShare of train " + wrong, p, p.jointShare(wrong, 0, 0), 1);
            CHECKS.refused("jointShare of car " + wrong, p, p.jointShare(0, wrong, 0), 1);
            CHECKS.refused("jointShare of meal " + wrong, p, p.jointShare(0, 0, wrong), 1);
            CHECKS.refused("carried of train " + wrong, p, p.carried(wrong, 0), 1);
            CHECKS.refused("carried of meal " + wrong, p, p.carried(0, wrong), 1);
            CHECKS.refusedLong("coverage of train " + wrong, p, p.coverage(wrong, 0, false), 1);
            CHECKS.refusedLong("coverage of meal " + wrong, p, p.coverage(0, wrong, false), 1);
            CHECKS.refusedLong("leastCoverage of train " + wrong, p, p.leastCoverage(wrong, false), 1);
            CHECKS.refused("betterServed(" + wrong + ")", p, p.betterServed(wrong), 1);
        }
        CHECKS.refused("share(1, 1, 0)", p, p.share(1, 1, 0), 1);
        CHECKS.refused("jointShare(1, 1, 0)", p, p.jointShare(1, 1, 0), 1);
        CHECKS.refused("betterServed(2)", p, p.betterServed(2), 1);
    }

    private static void shares(TrolleyPlanner p, int train, int meal, int... due) {
        for (int car = 0; car < due.length; car++) {
            CHECKS.answered("share(" + train + ", " + car + ", " + meal + ")", p, p.share(train, car, meal), due[car]);
        }
    }

    private static void jointShares(TrolleyPlanner p, int train, int meal, int... due) {
        for (int car = 0; car < due.length; car++) {
            CHECKS.answered("jointShare(" + train + ", " + car + ", " + meal + ")", p, p.jointShare(train, car, meal), due[car]);
        }
    }

    private static void equalFractions() {
        TrolleyPlanner p = Texts.plan(EVEN + ";job 0 0 2 a 2");
        shares(p, 0, 0, 1, 1, 0);
        shares(p, 1, 0, 0);
        CHECKS.answered("carried(0, 0)", p, p.carried(0, 0), 2);
        CHECKS.answered("carried(1, 0)", p, p.carried(1, 0), 0);
        shares(p, 0, 1, 0, 0, 0);
    }

    private static void largestRemainders() {
        // Demands 2, 7 and 4 with 6 meals: quotas 12/13, 42/13 = 3 3/13 and 24/13 = 1 11/13.
        TrolleyPlanner p = Texts.plan(TRAINS + "car 0 0 2 0;car 0 0 7 0;car 0 0 4 0;car 1 0 3 0;meal a 10 0;meal b 0 10;" + REST
            + ";job 0 0 1 a 4;job 0 0 2 a 2");
        shares(p, 0, 0, 1, 3, 2);
        CHECKS.answered("carried(0, 0)", p, p.carried(0, 0), 1);
        // 5 meals: 10/13, 35/13 = 2 9/13 and 20/13 = 1 7/13; two meals remain.
        p.setQuantity(1, 1);
        shares(p, 0, 0, 1, 3, 1);
        // 1 meal: 2/13, 7/13 and 4/13.
        p.removeJob(0);
        shares(p, 0, 0, 0, 1, 0);
        CHECKS.answered("carried(0, 0)", p, p.carried(0, 0), 1);
    }

    private static void fractionsOfTheWholeDemand() {
        // Demands 1, 7 and 4 with 8 meals: quotas 8/12, 56/12 = 4 8/12 and 32/12 = 2 8/12.
        TrolleyPlanner p = Texts.plan(TRAINS + "car 0 0 1 0;car 0 0 7 0;car 0 0 4 0;car 1 0 3 0;meal a 10 0;" + REST.replace(
            "stock 0 b 999;", "") + ";job 0 0 1 a 8");
        shares(p, 0, 0, 1, 5, 2);
        CHECKS.answered("carried(0, 0)", p, p.carried(0, 0), 3);
        shares(p, 1, 0, 0);
        shares(p, 0, 0, 1, 5, 2);
    }

    private static void enoughForAll() {
        TrolleyPlanner p = Texts.plan(EVEN + ";job 0 0 2 a 9");
        shares(p, 0, 0, 3, 3, 3);
        CHECKS.answered("carried(0, 0)", p, p.carried(0, 0), 6);
        p.setQuantity(0, 50);
        shares(p, 0, 0, 3, 3, 3);
        CHECKS.answered("carried(0, 0)", p, p.carried(0, 0), 6);
        jointShares(p, 0, 0, 3, 3, 3);
        jointShares(p, 1, 0, 3);
        p.setQuantity(0, 8);
        shares(p, 0, 0, 3, 3, 2);
    }

    private static void jointly() {
        TrolleyPlanner p = Texts.plan(EVEN + ";job 0 0 2 a 2;job 0 1 0 a 1");
        jointShares(p, 0, 0, 1, 1, 1);
        jointShares(p, 1, 0, 0);
        p.setQuantity(1, 2);
        jointShares(p, 0, 0, 1, 1, 1);
        jointShares(p, 1, 0, 1);
        p.setQuantity(1, 10);
        jointShares(p, 1, 0, 3);
        shares(p, 1, 0, 3);
        shares(p, 0, 0, 1, 1, 0);
    }

    private static void coverage(TrolleyPlanner p, int train, int meal, long above, long below) {
        CHECKS.answered("coverage(" + train + ", " + meal + ", false)", p, p.coverage(train, meal, false), above);
        CHECKS.answered("coverage(" + train + ", " + meal + ", true)", p, p.coverage(train, meal, true), below);
    }

    private static void coverages() {
        TrolleyPlanner p = Texts.plan(EVEN + ";job 0 0 2 a 2;job 0 1 0 a 7");
        coverage(p, 0, 0, 2, 9);
        coverage(p, 0, 1, 1, 1);
        coverage(p, 1, 0, 1, 1);
        p.setQuantity(0, 6);
        coverage(p, 0, 0, 2, 3);
        p.setQuantity(0, 9);
        coverage(p, 0, 0, 1, 1);
        p.removeJob(0);
        coverage(p, 0, 0, 0, 1);
    }

    private static void leastCoverages() {
        TrolleyPlanner p = Texts.plan(EVEN.replace("meal b 0 10", "meal b 20 0") + ";job 0 0 0 a 6;job 0 0 1 b 8;job 0 1 0 b 6");
        CHECKS.answered("leastCoverage(0, false)", p, p.leastCoverage(0, false), 4);
        CHECKS.answered("leastCoverage(0, true)", p, p.leastCoverage(0, true), 9);
        CHECKS.answered("leastCoverage(1, false)", p, p.leastCoverage(1, false), 0);
        CHECKS.answered("leastCoverage(1, true)", p, p.leastCoverage(1, true), 1);
        p.setQuantity(1, 15);
        CHECKS.answered("leastCoverage(0, false)", p, p.leastCoverage(0, false), 2);
        CHECKS.answered("leastCoverage(0, true)", p, p.leastCoverage(0, true), 3);
    }

    private static void betterServed() {
        TrolleyPlanner p = Texts.plan(EVEN + ";job 0 0 2 a 3;job 0 1 0 a 1");
        CHECKS.answered("betterServed(0), 3/9 and 1/3", p, p.betterServed(0), -1);
        CHECKS.answered("betterServed(1) without demand", p, p.betterServed(1), -1);
        p.setQuantity(0, 4);
        CHECKS.answered("betterServed(0), 4/9 and 1/3", p, p.betterServed(0), 0);
        p.setQuantity(1, 2);
        CHECKS.answered("betterServed(0), 4/9 and 2/3", p, p.betterServed(0), 1);
        p.setQuantity(0, 10);
        p.setQuantity(1, 30);
        CHECKS.answered("betterServed(0), both more than enough", p, p.betterServed(0), -1);
    }

    private SharingTest() {
    }
}
