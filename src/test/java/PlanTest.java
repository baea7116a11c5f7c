/** Promises 7 to 15: what the text says of the plan. */
public final class PlanTest {
    private static final Checks CHECKS = new Checks("PlanTest");
    private static final int[] WRONG = {-1, Integer.MIN_VALUE, Integer.MAX_VALUE, 20};

    public static void main(String[] args) {
        withoutAPlan();
        counts();
        departures();
        stocks();
        demands();
        jobs();
        CHECKS.end();
    }

    private static TrolleyPlanner wide() {
        return Texts.plan("train 1 from 7 to 900;train 0 from 0 to 5;car 1 0 7 0;car 0 99 1 0;car 1 1 99 99;car 1 2 0 1;"
            + "meal a 3 4;meal b 20 20;meal c 0 0;kitchen 4;kitchen 5;kitchen 6;stock 2 c 17;stock 0 b 999;"
            + "trolley 2 1 1 1 1;trolley 0 1 1 1 1;job 1 1 2 c 99;job 0 0 0 a 1");
    }

    private static void withoutAPlan() {
        TrolleyPlanner p = new TrolleyPlanner();
        CHECKS.refused("carCount(0)", p, p.carCount(0), 1);
        CHECKS.refused("mealCount()", p, p.mealCount(), 1);
        CHECKS.refused("trolleyCount()", p, p.trolleyCount(), 1);
        CHECKS.refused("jobCount()", p, p.jobCount(), 1);
        CHECKS.refused("departure(0)", p, p.departure(0), 1);
        CHECKS.refused("stock(0, 0)", p, p.stock(0, 0), 1);
        CHECKS.refused("demand(0, 0, 0)", p, p.demand(0, 0, 0), 1);
        CHECKS.refused("jobTrolley(0)", p, p.jobTrolley(0), 1);
        CHECKS.refused("jobQuantity(0)", p, p.jobQuantity(0), 1);
    }

    private static void counts() {
        TrolleyPlanner p = wide();
        CHECKS.refused("carCount(2)", p, p.carCount(2), 1);
        CHECKS.answered("carCount(0)", p, p.carCount(0), 1);
        CHECKS.answered("carCount(1)", p, p.carCount(1), 3);
        CHECKS.refused("carCount(-1)", p, p.carCount(-1), 1);
        CHECKS.answered("mealCount()", p, p.mealCount(), 3);
        p.carCount(2);
        CHECKS.answered("trolleyCount()", p, p.trolleyCount(), 2);
        p.carCount(2);
        CHECKS.answered("jobCount()", p, p.jobCount(), 2);
        TrolleyPlanner none = Texts.plan(Texts.SMALL);
        CHECKS.answered("jobCount() without jobs", none, none.jobCount(), 0);
        CHECKS.refused("jobTrolley(0) without jobs", none, none.jobTrolley(0), 1);
    }

    private static void departures() {
        TrolleyPlanner p = wide();
        CHECKS.answered("departure(0)", p, p.departure(0), 5);
        CHECKS.answered("departure(1)", p, p.departure(1), 900);
        CHECKS.refused("departure(2)", p, p.departure(2), 1);
        CHECKS.refused("departure(-1)", p, p.departure(-1), 1);
    }

    private static void stocks() {
        TrolleyPlanner p = wide();
        CHECKS.answered("stock(0, 1)", p, p.stock(0, 1), 999);
        CHECKS.answered("stock(2, 2)", p, p.stock(2, 2), 17);
        CHECKS.answered("stock(1, 1)", p, p.stock(1, 1), 0);
        for (int wrong : WRONG) {
            CHECKS.refused("stock(" + wrong + ", 0)", p, p.stock(wrong, 0), 1);
            CHECKS.refused("stock(0, " + wrong + ")", p, p.stock(0, wrong), 1);
        }
        CHECKS.refused("stock(3, 0)", p, p.stock(3, 0), 1);
        CHECKS.refused("stock(0, 3)", p, p.stock(0, 3), 1);
    }

    private static void demands() {
        TrolleyPlanner p = wide();
        CHECKS.answered("21 tenths", p, p.demand(1, 0, 0), 3);
        CHECKS.answered("140 tenths", p, p.demand(1, 0, 1), 14);
        CHECKS.answered("no rates", p, p.demand(1, 1, 2), 0);
        CHECKS.answered("3 tenths", p, p.demand(0, 0, 0), 1);
        CHECKS.answered("693 tenths", p, p.demand(1, 1, 0), 70);
        CHECKS.answered("3960 tenths", p, p.demand(1, 1, 1), 396);
        CHECKS.answered("4 tenths", p, p.demand(1, 2, 0), 1);
        for (int wrong : WRONG) {
            CHECKS.refused("demand of train " + wrong, p, p.demand(wrong, 0, 0), 1);
            CHECKS.refused("demand of car " + wrong, p, p.demand(0, wrong, 0), 1);
            CHECKS.refused("demand for meal " + wrong, p, p.demand(0, 0, wrong), 1);
        }
        CHECKS.refused("demand(0, 1, 0)", p, p.demand(0, 1, 0), 1);
        CHECKS.refused("demand(1, 3, 0)", p, p.demand(1, 3, 0), 1);
        CHECKS.refused("demand(1, 2, 3)", p, p.demand(1, 2, 3), 1);
        CHECKS.refused("demand(2, 0, 0)", p, p.demand(2, 0, 0), 1);
    }

    private static void jobs() {
        TrolleyPlanner p = wide();
        CHECKS.answered("jobTrolley(0)", p, p.jobTrolley(0), 1);
        CHECKS.answered("jobTrolley(1)", p, p.jobTrolley(1), 0);
        CHECKS.answered("jobQuantity(0)", p, p.jobQuantity(0), 99);
        CHECKS.answered("jobQuantity(1)", p, p.jobQuantity(1), 1);
        for (int wrong : WRONG) {
            CHECKS.refused("jobTrolley(" + wrong + ")", p, p.jobTrolley(wrong), 1);
            CHECKS.refused("jobQuantity(" + wrong + ")", p, p.jobQuantity(wrong), 1);
        }
        CHECKS.refused("jobTrolley(2)", p, p.jobTrolley(2), 1);
        CHECKS.refused("jobQuantity(2)", p, p.jobQuantity(2), 1);
    }

    private PlanTest() {
    }
}
