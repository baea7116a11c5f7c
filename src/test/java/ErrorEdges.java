import java.lang.reflect.Method;
import java.lang.reflect.Modifier;
import java.util.ArrayList;
import java.util.List;
import java.util.NoSuchElementException;
import java.util.function.ToLongFunction;
import java.util.regex.Matcher;
import java.util.regex.Pattern;

/** The edges of the beginning, of section 6 up to the changes, of the examples and of the constants: errors of all methods. */
final class ErrorEdges {
    /** The doors are at the kitchen. Job 0 delivers 4 meals, job 1 none: it would deliver 5 in front of job 0, or without it. */
    private static final String NEAR = "train 0 from 0 to 20;train 1 from 0 to 10;car 0 0 1 0;car 1 0 1 0;meal a 10 0;"
        + "kitchen 0;stock 0 a 50;trolley 0 9 1 1 1;trolley 0 9 1 1 1";
    private static final int[] ODD = {-1, 99, 1 << 30, Integer.MIN_VALUE, Integer.MAX_VALUE};
    private static final long NONE = TrolleyPlanner.FAILED;
    private static final long NONE_LONG = TrolleyPlanner.FAILED_LONG;

    private record Call(String name, long failed, ToLongFunction<TrolleyPlanner> call) {
    }

    static void tell(Edges e) {
        beginning(e);
        codes(e);
        order(e);
        nothingElseChanges(e);
        failedAnswers(e);
        examples(e);
        constants(e);
        e.noEdge("Not promised", "How the state is held inside the object is free", "Use of one object from several threads",
            "Nothing is promised beyond the answers and state changes");
    }

    // ---- what the tests below share

    private static TrolleyPlanner planned() {
        TrolleyPlanner p = Texts.plan(NEAR + ";job 0 0 0 a 4;job 0 1 0 a 5;job 1 0 0 a 1");
        p.setQuantity(2, 2);
        p.save();
        p.setQuantity(2, 3);
        p.append(0x6b697463, 0x68656e20, 0x39202020, 0x20202020, 0x20202020);
        return p;
    }

    /** As planned, with as many jobs as there may be. */
    private static TrolleyPlanner full() {
        TrolleyPlanner p = Texts.plan(NEAR + ";trolley 0 9 1 1 1" + ";job 0 0 0 a 1".repeat(8) + ";job 1 0 0 a 1".repeat(8)
            + ";job 2 0 0 a 1".repeat(3));
        p.save();
        p.addJob(2, 1, 0, 0, 9);
        return p;
    }

    /** Every method that sets an error code, but for load, with arguments that are right in planned(). */
    private static List<Call> goodCalls() {
        List<Call> calls = new ArrayList<>();
        calls.add(new Call("carCount", NONE, p -> p.carCount(0)));
        calls.add(new Call("mealCount", NONE, p -> p.mealCount()));
        calls.add(new Call("trolleyCount", NONE, p -> p.trolleyCount()));
        calls.add(new Call("jobCount", NONE, p -> p.jobCount()));
        calls.add(new Call("departure", NONE, p -> p.departure(0)));
        calls.add(new Call("stock", NONE, p -> p.stock(0, 0)));
        calls.add(new Call("demand", NONE, p -> p.demand(0, 0, 0)));
        calls.add(new Call("jobTrolley", NONE, p -> p.jobTrolley(0)));
        calls.add(new Call("jobQuantity", NONE, p -> p.jobQuantity(0)));
        calls.add(new Call("startTime", NONE, p -> p.startTime(0)));
        calls.add(new Call("loaded", NONE, p -> p.loaded(0)));
        calls.add(new Call("unloaded", NONE, p -> p.unloaded(0)));
        calls.add(new Call("unloadTime", NONE, p -> p.unloadTime(0)));
        calls.add(new Call("finishTime", NONE, p -> p.finishTime(0)));
        calls.add(new Call("delivered", NONE, p -> p.delivered(0, 0, 0)));
        calls.add(new Call("deliveredTotal", NONE, p -> p.deliveredTotal()));
        calls.add(new Call("leftBehind", NONE, p -> p.leftBehind(0)));
        calls.add(new Call("finalStock", NONE, p -> p.finalStock(0, 0)));
        calls.add(new Call("shortage", NONE, p -> p.shortage(0, 0, 0)));
        calls.add(new Call("longestWait", NONE, p -> p.longestWait(0)));
        calls.add(new Call("doorBusy", NONE, p -> p.doorBusy(0, 0)));
        calls.add(new Call("stateAt", NONE, p -> p.stateAt(0, 0)));
        calls.add(new Call("mealsOn", NONE, p -> p.mealsOn(0, 0)));
        calls.add(new Call("share", NONE, p -> p.share(0, 0, 0)));
        calls.add(new Call("carried", NONE, p -> p.carried(0, 0)));
        calls.add(new Call("jointShare", NONE, p -> p.jointShare(0, 0, 0)));
        calls.add(new Call("coverage", NONE_LONG, p -> p.coverage(0, 0, false)));
        calls.add(new Call("coverage", NONE_LONG, p -> p.coverage(0, 0, true)));
        calls.add(new Call("leastCoverage", NONE_LONG, p -> p.leastCoverage(0, false)));
        calls.add(new Call("leastCoverage", NONE_LONG, p -> p.leastCoverage(0, true)));
        calls.add(new Call("betterServed", NONE, p -> p.betterServed(0)));
        calls.add(new Call("bestSet", NONE, p -> p.bestSet(0)));
        calls.add(new Call("bestMeals", NONE, p -> p.bestMeals(0)));
        calls.add(new Call("bestOrder", NONE, p -> p.bestOrder(0, 0)));
        calls.add(new Call("leastSpeed", NONE, p -> p.leastSpeed(0)));
        calls.add(new Call("neededDelay", NONE, p -> p.neededDelay(0)));
        calls.add(new Call("deliveredWithout", NONE, p -> p.deliveredWithout(0)));
        calls.add(new Call("worstJob", NONE, p -> p.worstJob()));
        calls.add(new Call("bestTrolley", NONE, p -> p.bestTrolley(0)));
        calls.add(new Call("bestSwap", NONE, p -> p.bestSwap()));
        addChanges(calls);
        return calls;
    }

    private static void addChanges(List<Call> calls) {
        calls.add(new Call("addJob", NONE, p -> p.addJob(0, 0, 0, 0, 1)));
        calls.add(new Call("removeJob", NONE, p -> p.removeJob(0)));
        calls.add(new Call("moveJob", NONE, p -> p.moveJob(0, 0)));
        calls.add(new Call("setDeparture", NONE, p -> p.setDeparture(0, 50)));
        calls.add(new Call("setStock", NONE, p -> p.setStock(0, 0, 5)));
        calls.add(new Call("setQuantity", NONE, p -> p.setQuantity(0, 5)));
        calls.add(new Call("applyBest", NONE, p -> p.applyBest(0)));
        calls.add(new Call("undo", NONE, p -> p.undo()));
        calls.add(new Call("save", NONE, p -> p.save()));
        calls.add(new Call("restore", NONE, p -> p.restore()));
    }

    // ---- the beginning

    private static void beginning(Edges e) {
        e.noEdge("Beginning", "A simulator and planner for the catering of two trains", "It computes what is delivered in time");
        e.test("Beginning", "An object is used for at most 512 calls after it has been made", c -> {
            // The 512th call is answered as the first one, whatever the calls before it are.
            TrolleyPlanner p = planned();
            for (int call = 4 + textCalls(); call < 511; call++) {
                p.setStock(0, 0, 300 + call);
            }
            c.due("the 512th call", p.setStock(0, 0, 5), 300 + 510);
            TrolleyPlanner undoing = planned();
            for (int call = 4 + textCalls(); call < 511; call++) {
                undoing.moveJob(0, 1);
            }
            c.due("the 512th call, the latest of many changes", undoing.undo(), 9);
            TrolleyPlanner asking = planned();
            for (int call = 4 + textCalls(); call < 511; call++) {
                asking.bestSwap();
            }
            c.due("the 512th call, a question as before", asking.bestSwap(), 1);
            TrolleyPlanner loading = new TrolleyPlanner();
            for (int call = 0; call < 510; call += 2) {
                loading.append(0x6b697463, 0x68656e20, 0x39202020, 0x20202020, 0x20202020);
                loading.load(9);
            }
            loading.append(0x6b697463, 0x68656e20, 0x39202020, 0x20202020, 0x20202020);
            c.due("the 512th call, one load of many", loading.load(9), NONE);
            TrolleyPlanner position = new TrolleyPlanner();
            for (int call = 0; call < 509; call++) {
                position.append(0x20202020, 0x20202020, 0x20202020, 0x20202020, 0x20202020);
            }
            c.due("the 510th call", position.buffered(), 900);
            c.due("the 511th call", position.load(900), NONE);
            c.due("the 512th call", position.errorPosition(), 900);
        });
    }

    /** The calls of append and load that planned() makes. */
    private static int textCalls() {
        return (NEAR.length() + ";job 0 0 0 a 4;job 0 1 0 a 5;job 1 0 0 a 1".length() + 19) / 20 + 1;
    }

    // ---- section 6

    private static void codes(Edges e) {
        e.test("Section 6", "Methods set the error code that error() returns, unless documented otherwise", c -> {
            for (Call one : goodCalls()) {
                TrolleyPlanner none = new TrolleyPlanner();
                c.due(one.name + " without a plan", one.call.applyAsLong(none), one.failed);
                c.due(one.name + " without a plan, its error code", none.error(), 1);
                TrolleyPlanner p = planned();
                p.load(-1);
                c.due("error() before " + one.name, p.error(), 2);
                c.due(one.name + " fails", one.call.applyAsLong(p) == one.failed ? 1 : 0, 0);
                c.due(one.name + ", its error code", p.error(), 0);
            }
            TrolleyPlanner p = planned();
            c.refused("1: an index out of range", p, p.startTime(3), 1);
            c.refused("2: another argument out of range", p, p.setQuantity(0, 0), 2);
            TrolleyPlanner full = full();
            c.refused("3: no room", full, full.addJob(0, 0, 0, 0, 1), 3);
            c.refused("4: a parse error", p, p.load(1), 4);
            p.undo();
            p.undo();
            c.refused("6: nothing to undo", p, p.undo(), 6);
            c.refused("6: no such result", p, p.unloadTime(1), 6);
            TrolleyPlanner unsaved = Texts.plan(NEAR);
            c.refused("6: nothing to restore", unsaved, unsaved.restore(), 6);
            c.answered("0 after a load", unsaved, Texts.load(unsaved, NEAR), 0);
        });
    }

    private static void order(Edges e) {
        e.test("Section 6", "Errors are checked in this order, unless documented otherwise.", c -> {
            TrolleyPlanner none = new TrolleyPlanner();
            c.refused("1 before 2, without a plan", none, none.stateAt(0, -1), 1);
            c.refused("1 before 2, without a plan", none, none.mealsOn(0, 10000), 1);
            c.refused("1 before 2, without a plan", none, none.addJob(0, 0, 0, 0, 0), 1);
            c.refused("1 before 2, without a plan", none, none.setDeparture(0, 1000), 1);
            c.refused("1 before 2, without a plan", none, none.setStock(0, 0, 1000), 1);
            c.refused("1 before 2, without a plan", none, none.setQuantity(0, 0), 1);
            c.refused("1 before 6, without a plan", none, none.undo(), 1);
            c.refused("1 before 6, without a plan", none, none.restore(), 1);
            c.refused("1 before 6, without a plan", none, none.bestOrder(0, -1), 1);
            c.refused("1 before 6, without a plan", none, none.worstJob(), 1);
            c.refused("1 before 6, without a plan", none, none.bestSwap(), 1);
            TrolleyPlanner p = planned();
            c.refused("1 before 2", p, p.stateAt(2, -1), 1);
            c.refused("1 before 2", p, p.mealsOn(-1, 10000), 1);
            c.refused("1 before 2", p, p.setDeparture(2, 1000), 1);
            c.refused("1 before 2", p, p.setStock(1, 0, -1), 1);
            c.refused("1 before 2", p, p.setStock(0, 1, 1000), 1);
            c.refused("1 before 2", p, p.setQuantity(3, 100), 1);
            c.refused("1 before 2", p, p.addJob(0, 0, 0, 1, 0), 1);
            c.refused("1 before 6", p, p.bestOrder(2, 9), 1);
            c.refused("2 before 4", p, p.load(21), 2);
            c.refused("2 before 4", p, p.load(-1), 2);
            TrolleyPlanner full = full();
            c.refused("1 before 3", full, full.addJob(3, 0, 0, 0, 1), 1);
            c.refused("1 before 3", full, full.addJob(0, 2, 0, 0, 1), 1);
            c.refused("1 before 3", full, full.addJob(0, 0, 1, 0, 1), 1);
            c.refused("1 before 3", full, full.addJob(0, 0, 0, 1, 1), 1);
            c.refused("2 before 3", full, full.addJob(0, 0, 0, 0, 0), 2);
            c.refused("2 before 3", full, full.addJob(2, 0, 0, 0, 100), 2);
            c.refused("3", full, full.addJob(2, 0, 0, 0, 99), 3);
        });
    }

    // ---- what a failed call leaves as it was

    private static void unchanged(Checks c, String name, long failed, int code, ToLongFunction<TrolleyPlanner> call) {
        c.refusedAndUnchanged(name, ErrorEdges::planned, call, failed, code);
    }

    private static void nothingElseChanges(Edges e) {
        e.test("Section 6", "A failed call changes nothing except the error code, and, for a parse error, the input", c -> {
            for (Call one : goodCalls()) {
                c.refusedAndUnchanged(one.name + " without a plan", ErrorEdges::unplanned, one.call, one.failed, 1);
            }
            for (int odd : ODD) {
                unchangedQuestions(c, odd);
                unchangedSums(c, odd);
                unchangedChanges(c, odd);
            }
            unchangedNumbers(c);
            unchangedResults(c);
            unchangedByParseErrors(c);
        });
    }

    private static TrolleyPlanner unplanned() {
        TrolleyPlanner p = new TrolleyPlanner();
        Texts.load(p, "kitchen 100");
        Texts.append(p, "kitchen 5");
        return p;
    }

    private static void unchangedQuestions(Checks c, int odd) {
        unchanged(c, "carCount", NONE, 1, p -> p.carCount(odd));
        unchanged(c, "departure", NONE, 1, p -> p.departure(odd));
        unchanged(c, "stock of kitchen", NONE, 1, p -> p.stock(odd, 0));
        unchanged(c, "stock of meal", NONE, 1, p -> p.stock(0, odd));
        unchanged(c, "demand of train", NONE, 1, p -> p.demand(odd, 0, 0));
        unchanged(c, "demand of car", NONE, 1, p -> p.demand(0, odd, 0));
        unchanged(c, "demand of meal", NONE, 1, p -> p.demand(0, 0, odd));
        unchanged(c, "jobTrolley", NONE, 1, p -> p.jobTrolley(odd));
        unchanged(c, "jobQuantity", NONE, 1, p -> p.jobQuantity(odd));
        unchanged(c, "startTime", NONE, 1, p -> p.startTime(odd));
        unchanged(c, "loaded", NONE, 1, p -> p.loaded(odd));
        unchanged(c, "unloaded", NONE, 1, p -> p.unloaded(odd));
        unchanged(c, "unloadTime", NONE, 1, p -> p.unloadTime(odd));
        unchanged(c, "finishTime", NONE, 1, p -> p.finishTime(odd));
        unchanged(c, "delivered to train", NONE, 1, p -> p.delivered(odd, 0, 0));
        unchanged(c, "delivered to car", NONE, 1, p -> p.delivered(0, odd, 0));
        unchanged(c, "delivered of meal", NONE, 1, p -> p.delivered(0, 0, odd));
        unchanged(c, "leftBehind", NONE, 1, p -> p.leftBehind(odd));
        unchanged(c, "finalStock of kitchen", NONE, 1, p -> p.finalStock(odd, 0));
        unchanged(c, "finalStock of meal", NONE, 1, p -> p.finalStock(0, odd));
        unchanged(c, "longestWait", NONE, 1, p -> p.longestWait(odd));
        unchanged(c, "doorBusy of train", NONE, 1, p -> p.doorBusy(odd, 0));
        unchanged(c, "doorBusy of car", NONE, 1, p -> p.doorBusy(0, odd));
        unchanged(c, "stateAt", NONE, 1, p -> p.stateAt(odd, 0));
        unchanged(c, "mealsOn", NONE, 1, p -> p.mealsOn(odd, 0));
    }

    private static void unchangedSums(Checks c, int odd) {
        unchanged(c, "shortage of train", NONE, 1, p -> p.shortage(odd, 0, 0));
        unchanged(c, "shortage of car", NONE, 1, p -> p.shortage(0, odd, 0));
        unchanged(c, "shortage of meal", NONE, 1, p -> p.shortage(0, 0, odd));
        unchanged(c, "share of train", NONE, 1, p -> p.share(odd, 0, 0));
        unchanged(c, "share of car", NONE, 1, p -> p.share(0, odd, 0));
        unchanged(c, "share of meal", NONE, 1, p -> p.share(0, 0, odd));
        unchanged(c, "carried in train", NONE, 1, p -> p.carried(odd, 0));
        unchanged(c, "carried of meal", NONE, 1, p -> p.carried(0, odd));
        unchanged(c, "jointShare of train", NONE, 1, p -> p.jointShare(odd, 0, 0));
        unchanged(c, "jointShare of car", NONE, 1, p -> p.jointShare(0, odd, 0));
        unchanged(c, "jointShare of meal", NONE, 1, p -> p.jointShare(0, 0, odd));
        unchanged(c, "coverage of train", NONE_LONG, 1, p -> p.coverage(odd, 0, true));
        unchanged(c, "coverage of meal", NONE_LONG, 1, p -> p.coverage(0, odd, false));
        unchanged(c, "leastCoverage", NONE_LONG, 1, p -> p.leastCoverage(odd, true));
        unchanged(c, "betterServed", NONE, 1, p -> p.betterServed(odd));
        unchanged(c, "bestSet", NONE, 1, p -> p.bestSet(odd));
        unchanged(c, "bestMeals", NONE, 1, p -> p.bestMeals(odd));
        unchanged(c, "bestOrder of trolley", NONE, 1, p -> p.bestOrder(odd, 0));
        unchanged(c, "bestOrder at place", NONE, 6, p -> p.bestOrder(0, odd));
        unchanged(c, "leastSpeed", NONE, 1, p -> p.leastSpeed(odd));
        unchanged(c, "neededDelay", NONE, 1, p -> p.neededDelay(odd));
        unchanged(c, "deliveredWithout", NONE, 1, p -> p.deliveredWithout(odd));
        unchanged(c, "bestTrolley", NONE, 1, p -> p.bestTrolley(odd));
    }

    private static void unchangedChanges(Checks c, int odd) {
        unchanged(c, "addJob of trolley", NONE, 1, p -> p.addJob(odd, 0, 0, 0, 1));
        unchanged(c, "addJob for train", NONE, 1, p -> p.addJob(0, odd, 0, 0, 1));
        unchanged(c, "addJob for car", NONE, 1, p -> p.addJob(0, 0, odd, 0, 1));
        unchanged(c, "addJob of meal", NONE, 1, p -> p.addJob(0, 0, 0, odd, 1));
        unchanged(c, "removeJob", NONE, 1, p -> p.removeJob(odd));
        unchanged(c, "moveJob", NONE, 1, p -> p.moveJob(odd, 0));
        unchanged(c, "moveJob to", NONE, 1, p -> p.moveJob(0, odd));
        unchanged(c, "setDeparture", NONE, 1, p -> p.setDeparture(odd, 50));
        unchanged(c, "setStock of kitchen", NONE, 1, p -> p.setStock(odd, 0, 5));
        unchanged(c, "setStock of meal", NONE, 1, p -> p.setStock(0, odd, 5));
        unchanged(c, "setQuantity", NONE, 1, p -> p.setQuantity(odd, 5));
        unchanged(c, "applyBest", NONE, 1, p -> p.applyBest(odd));
    }

    private static void unchangedNumbers(Checks c) {
        for (int wrong : new int[] {-1, 1000, 10000, Integer.MIN_VALUE, Integer.MAX_VALUE}) {
            unchanged(c, "addJob of " + wrong, NONE, 2, p -> p.addJob(0, 0, 0, 0, wrong));
            unchanged(c, "setDeparture to " + wrong, NONE, 2, p -> p.setDeparture(0, wrong));
            unchanged(c, "setStock to " + wrong, NONE, 2, p -> p.setStock(0, 0, wrong));
            unchanged(c, "setQuantity to " + wrong, NONE, 2, p -> p.setQuantity(0, wrong));
            unchanged(c, "load of " + wrong, NONE, 2, p -> p.load(wrong));
            if (wrong != 1000) {
                unchanged(c, "stateAt " + wrong, NONE, 2, p -> p.stateAt(0, wrong));
                unchanged(c, "mealsOn at " + wrong, NONE, 2, p -> p.mealsOn(0, wrong));
            }
        }
        c.refusedAndUnchanged("a ninth job", ErrorEdges::almostFull, p -> p.addJob(0, 0, 0, 0, 1), NONE, 3);
        c.refusedAndUnchanged("a 21st job", ErrorEdges::full, p -> p.addJob(2, 0, 0, 0, 1), NONE, 3);
    }

    private static TrolleyPlanner almostFull() {
        TrolleyPlanner p = full();
        p.removeJob(19);
        return p;
    }

    private static void unchangedResults(Checks c) {
        unchanged(c, "unloadTime in vain", NONE, 6, p -> p.unloadTime(1));
        c.refusedAndUnchanged("undo of nothing", () -> Texts.plan(NEAR + ";job 0 0 0 a 4"), p -> p.undo(), NONE, 6);
        c.refusedAndUnchanged("restore of nothing", ErrorEdges::unsaved, p -> p.restore(), NONE, 6);
        c.refusedAndUnchanged("worstJob of none", ErrorEdges::unsaved, p -> p.worstJob(), NONE, 6);
        c.refusedAndUnchanged("bestSwap of none", ErrorEdges::unsaved, p -> p.bestSwap(), NONE, 6);
        c.refusedAndUnchanged("neededDelay that is too long", ErrorEdges::late, p -> p.neededDelay(0), NONE, 6);
        c.refusedAndUnchanged("leastSpeed of none", ErrorEdges::late, p -> p.leastSpeed(0), NONE, 6);
        c.refusedAndUnchanged("served of none", ErrorEdges::unsaved, p -> {
            try {
                return p.served(1);
            } catch (NoSuchElementException none) {
                return NONE;
            }
        }, NONE, 0);
        c.refusedAndUnchanged("append to a full buffer", () -> {
            TrolleyPlanner p = unsaved();
            Texts.append(p, "kitchen 5" + " ".repeat(891));
            return p;
        }, p -> p.append(0, 0, 0, 0, 0), NONE, 0);
    }

    private static TrolleyPlanner unsaved() {
        TrolleyPlanner p = Texts.plan(NEAR + ";job 0 0 0 a 4");
        p.setStock(0, 0, 40);
        p.setStock(0, 0, 30);
        return p;
    }

    /** Nothing that is loaded can be unloaded within 60 units after the departure. */
    private static TrolleyPlanner late() {
        TrolleyPlanner p = Texts.plan(NEAR.replace("0 to 20", "0 to 1").replace("trolley 0 9 1 1 1", "trolley 0 90 1 1 1")
            + ";job 0 0 0 a 40");
        p.setStock(0, 0, 40);
        return p;
    }

    private static void unchangedByParseErrors(Checks c) {
        for (String text : new String[] {"x", "", "kitchen 5", "kitchen 100", NEAR + ";job 0 0 0 a 4;job 0 0 0 a 0"}) {
            TrolleyPlanner p = planned();
            p.load(0);
            c.refused("load of " + text, p, Texts.load(p, text), 4);
            c.due("buffered() after a parse error", p.buffered(), 0);
            c.same("load of " + text, Whole.planOf(p), Whole.planOf(planned()));
        }
    }

    private static void failedAnswers(Edges e) {
        e.test("Section 6", "Methods that return int return FAILED on an error, methods that return long return", c -> {
            TrolleyPlanner p = planned();
            c.refused("an int, 1", p, p.departure(-1), 1);
            c.refused("an int, 2", p, p.stateAt(0, -1), 2);
            TrolleyPlanner full = full();
            c.refused("an int, 3", full, full.addJob(0, 0, 0, 0, 1), 3);
            c.refused("an int, 4", p, p.load(3), 4);
            c.refused("an int, 6", p, p.unloadTime(1), 6);
            c.refusedLong("a long", p, p.coverage(2, 0, false), 1);
            c.refusedLong("a long", p, p.coverage(0, 1, true), 1);
            c.refusedLong("a long", p, p.leastCoverage(-1, false), 1);
            TrolleyPlanner none = new TrolleyPlanner();
            c.refusedLong("a long without a plan", none, none.coverage(0, 0, true), 1);
            c.refusedLong("a long without a plan", none, none.leastCoverage(0, true), 1);
            for (Method method : TrolleyPlanner.class.getDeclaredMethods()) {
                boolean rational = method.getName().equals("coverage") || method.getName().equals("leastCoverage");
                if (Modifier.isPublic(method.getModifiers())) {
                    c.due(method.getName() + " returns a long", method.getReturnType() == long.class ? 1 : 0, rational ? 1 : 0);
                }
            }
        });
    }

    // ---- the examples and the constants

    private static void examples(Edges e) {
        for (int k = 1; k <= 3; k++) {
            String beginning = "Example " + k + ":";
            e.test("Examples", beginning, c -> runExample(c, e.sentence("Examples", beginning)));
        }
    }

    /** Makes the calls that the example's text names, on one new object. */
    private static void runExample(Checks c, String text) {
        TrolleyPlanner p = new TrolleyPlanner();
        Matcher call = Pattern.compile("(\\w+)\\(([^)]*)\\) returns (-?\\d+)").matcher(text);
        while (call.find()) {
            String[] words = call.group(2).isEmpty() ? new String[0] : call.group(2).split(", ");
            c.due(call.group(), answer(p, call.group(1), words), Long.parseLong(call.group(3)));
        }
    }

    private static long answer(TrolleyPlanner p, String name, String[] words) {
        for (Method method : TrolleyPlanner.class.getMethods()) {
            if (method.getName().equals(name) && method.getParameterCount() == words.length) {
                Object[] args = new Object[words.length];
                for (int i = 0; i < words.length; i++) {
                    boolean choice = words[i].matches("true|false");
                    args[i] = choice ? (Object) Boolean.valueOf(words[i]) : (Object) Integer.valueOf(words[i]);
                }
                try {
                    return ((Number) method.invoke(p, args)).longValue();
                } catch (ReflectiveOperationException wrong) {
                    throw new IllegalStateException(wrong);
                }
            }
        }
        throw new IllegalStateException(name);
    }

    private static void constants(Edges e) {
        e.noEdge("Constants", "The constructor and the methods follow, a promise each");
        e.test("Constants", "- `FAILED = -2147483648`", c -> {
            c.due("FAILED", TrolleyPlanner.FAILED, -2147483648L);
            c.due("an int method on an error", new TrolleyPlanner().jobCount(), Integer.MIN_VALUE);
        });
        e.test("Constants", "- `FAILED_LONG = -9223372036854775808L`", c -> {
            c.due("FAILED_LONG", TrolleyPlanner.FAILED_LONG, -9223372036854775808L);
            c.due("a long method on an error", new TrolleyPlanner().leastCoverage(0, true), Long.MIN_VALUE);
        });
    }

    private ErrorEdges() {
    }
}
