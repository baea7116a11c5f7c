/** Promises 1 to 6: a new object, the input buffer and the text format. */
public final class InputTest {
    private static final Checks CHECKS = new Checks("InputTest");
    private static final String TRAINS = "train 0 from 0 to 9;train 1 from 0 to 9";
    private static final String CARS = TRAINS + ";car 0 1 2 3;car 1 1 2 3";
    private static final String KITCHEN = CARS + ";meal a 1 1;kitchen 5";
    private static final String WHOLE = KITCHEN + ";trolley 0 1 1 1 1";

    public static void main(String[] args) {
        aNewObjectHasNothing();
        appendCountsAndRefuses();
        appendKeepsTheOrderOfBytes();
        loadRefusesCounts();
        loadTakesTheFirstBytes();
        loadCutsWordsAndNumbers();
        aFailedLoadKeepsThePlan();
        everyLoadBeginsAnew();
        aLoadForgetsChangesAndSaved();
        theLatestLoadTellsItsError();
        goodTexts();
        wrongTokens();
        wrongLines();
        unknownAndOutOfRange();
        twice();
        tooMany();
        incompletePlans();
        theSmallestCodeOfAToken();
        CHECKS.end();
    }

    private static void aNewObjectHasNothing() {
        TrolleyPlanner p = new TrolleyPlanner();
        CHECKS.due("buffered()", p.buffered(), 0);
        CHECKS.due("parseError()", p.parseError(), 0);
        CHECKS.due("errorPosition()", p.errorPosition(), -1);
        CHECKS.due("error()", p.error(), 0);
        CHECKS.refused("mealCount()", p, p.mealCount(), 1);
    }

    private static void appendCountsAndRefuses() {
        TrolleyPlanner p = new TrolleyPlanner();
        p.mealCount();
        for (int bytes = 20; bytes <= 900; bytes += 20) {
            CHECKS.due("append", p.append(0, -1, 2, 3, 4), bytes);
            CHECKS.due("buffered()", p.buffered(), bytes);
        }
        CHECKS.due("append to a full buffer", p.append(1, 2, 3, 4, 5), Checks.FAILED);
        CHECKS.due("buffered()", p.buffered(), 900);
        CHECKS.due("error() after append", p.error(), 1);
        CHECKS.refused("load(901)", p, p.load(901), 2);
        CHECKS.refused("load(900)", p, p.load(900), 4);
        CHECKS.due("append to an empty buffer", p.append(1, 2, 3, 4, 5), 20);
        CHECKS.due("error() after append", p.error(), 4);
    }

    private static void appendKeepsTheOrderOfBytes() {
        // "train 0 from 10 to 9": the departure is before the arrival, at the last byte.
        TrolleyPlanner p = new TrolleyPlanner();
        p.append(0x74726169, 0x6e203020, 0x66726f6d, 0x20313020, 0x746f2039);
        CHECKS.refused("load(20)", p, p.load(20), 4);
        CHECKS.due("parseError()", p.parseError(), 2);
        CHECKS.due("errorPosition()", p.errorPosition(), 19);
    }

    private static void loadRefusesCounts() {
        TrolleyPlanner p = new TrolleyPlanner();
        CHECKS.refused("load(1) of nothing", p, p.load(1), 2);
        p.append(0x20202020, 0, 0, 0, 0);
        CHECKS.refused("load(-1)", p, p.load(-1), 2);
        CHECKS.refused("load(least int)", p, p.load(Integer.MIN_VALUE), 2);
        CHECKS.refused("load(21)", p, p.load(21), 2);
        CHECKS.refused("load(greatest int)", p, p.load(Integer.MAX_VALUE), 2);
        CHECKS.due("buffered() after error 2", p.buffered(), 20);
        CHECKS.due("parseError() after error 2", p.parseError(), 0);
        CHECKS.due("errorPosition() after error 2", p.errorPosition(), -1);
        CHECKS.refused("load(0)", p, p.load(0), 4);
        CHECKS.due("parseError() of the empty text", p.parseError(), 1);
        CHECKS.due("errorPosition() of the empty text", p.errorPosition(), 0);
        CHECKS.due("buffered() after a parse error", p.buffered(), 0);
    }

    private static void loadTakesTheFirstBytes() {
        TrolleyPlanner p = new TrolleyPlanner();
        Texts.append(p, WHOLE + ";job 0 0 0 a 1;job 0");
        CHECKS.answered("load", p, p.load((WHOLE + ";job 0 0 0 a 1").length()), 1);
        CHECKS.due("buffered() after load", p.buffered(), 0);
        Texts.append(p, WHOLE + ";job 0 0 0 a 1");
        CHECKS.answered("load of a shorter text", p, p.load(WHOLE.length()), 0);
        CHECKS.due("the jobs of the old plan", p.jobCount(), 0);
    }

    private static void loadCutsWordsAndNumbers() {
        TrolleyPlanner p = new TrolleyPlanner();
        Texts.append(p, WHOLE + ";job 0 0 0 a 15");
        CHECKS.answered("load with a cut number", p, p.load(WHOLE.length() + 14), 1);
        CHECKS.answered("jobQuantity(0)", p, p.jobQuantity(0), 1);
        Texts.append(p, "meal ab 1 1");
        CHECKS.refused("load with a cut word", p, p.load(6), 4);
        CHECKS.due("parseError()", p.parseError(), 1);
        CHECKS.due("errorPosition()", p.errorPosition(), 6);
        Texts.append(p, "trains");
        CHECKS.refused("load with a cut keyword", p, p.load(5), 4);
        CHECKS.due("errorPosition()", p.errorPosition(), 5);
    }

    private static void everyLoadBeginsAnew() {
        TrolleyPlanner p = new TrolleyPlanner();
        String stocked = WHOLE + ";stock 0 a 5;meal b 1 1;meal c 1 1;meal d 1 1;kitchen 1;kitchen 2;stock 2 d 7"
            + ";trolley 2 1 1 1 1".repeat(4) + ";car 0 1 1 1;car 0 1 1 1;car 0 1 1 1;car 0 1 1 1"
            + ";job 1 0 4 d 1".repeat(8) + ";job 0 1 0 a 1".repeat(8) + ";job 2 1 0 a 1".repeat(4);
        for (int i = 0; i < 5; i++) {
            CHECKS.answered("load of the great plan", p, Texts.load(p, stocked), 20);
            CHECKS.answered("stock(2, 3)", p, p.stock(2, 3), 7);
            CHECKS.answered("load of the small plan", p, Texts.load(p, i < 3 ? WHOLE + ";stock 0 a 6" : WHOLE), 0);
            CHECKS.answered("carCount(0)", p, p.carCount(0), 1);
            CHECKS.answered("mealCount()", p, p.mealCount(), 1);
            CHECKS.answered("trolleyCount()", p, p.trolleyCount(), 1);
            CHECKS.answered("stock(0, 0)", p, p.stock(0, 0), i < 3 ? 6 : 0);
            CHECKS.refused("stock(1, 0)", p, p.stock(1, 0), 1);
            CHECKS.answered("deliveredTotal()", p, p.deliveredTotal(), 0);
            if (i == 2) {
                CHECKS.refused("load of a wrong text", p, Texts.load(p, stocked + ";"), 4);
            }
        }
    }

    private static void aFailedLoadKeepsThePlan() {
        TrolleyPlanner kept = Texts.plan(Texts.SMALL + ";job 0 0 0 soup 5;job 0 1 0 soup 6");
        CHECKS.refused("load of a wrong text", kept, Texts.load(kept, "kitchen 3;meal tea 1 1;stock 0 tea 7;trolley 0 1 1 1 1;"
            + "trolley 0 2 2 2 2;train 1 from 50 to 52;train 0 from 3 to 4;car 0 1 1 1;car 0 1 1 1;job 0 0 0 tea 9;"), 4);
        CHECKS.answered("jobCount()", kept, kept.jobCount(), 2);
        CHECKS.answered("jobQuantity(0)", kept, kept.jobQuantity(0), 5);
        CHECKS.answered("carCount(0)", kept, kept.carCount(0), 1);
        CHECKS.answered("trolleyCount()", kept, kept.trolleyCount(), 1);
        CHECKS.answered("departure(1)", kept, kept.departure(1), 80);
        CHECKS.answered("stock(0, 0)", kept, kept.stock(0, 0), 40);
        CHECKS.answered("demand(1, 0, 0)", kept, kept.demand(1, 0, 0), 15);
        CHECKS.answered("moveJob(0, 0)", kept, kept.moveJob(0, 0), 0);
        CHECKS.answered("finishTime(1)", kept, kept.finishTime(1), 62);
        TrolleyPlanner p = Texts.plan(Texts.SMALL + ";job 0 0 0 soup 5");
        p.setQuantity(0, 6);
        p.save();
        CHECKS.refused("load of a wrong text", p, Texts.load(p, Texts.SMALL + ";job 0 1 0 soup 7;job"), 4);
        CHECKS.due("jobCount()", p.jobCount(), 1);
        CHECKS.due("unloaded(0)", p.unloaded(0), 6);
        CHECKS.due("stock(0, 0)", p.stock(0, 0), 40);
        CHECKS.answered("undo()", p, p.undo(), 0);
        CHECKS.due("jobQuantity(0)", p.jobQuantity(0), 5);
        CHECKS.answered("restore()", p, p.restore(), 1);
        CHECKS.due("jobQuantity(0)", p.jobQuantity(0), 6);
        CHECKS.refused("load(100)", p, p.load(100), 2);
        CHECKS.due("jobQuantity(0)", p.jobQuantity(0), 6);
    }

    private static void aLoadForgetsChangesAndSaved() {
        TrolleyPlanner p = Texts.plan(Texts.SMALL + ";job 0 0 0 soup 5");
        p.save();
        p.setStock(0, 0, 1);
        CHECKS.answered("load", p, Texts.load(p, WHOLE), 0);
        CHECKS.due("carCount(0)", p.carCount(0), 1);
        CHECKS.due("stock(0, 0) without a stock line", p.stock(0, 0), 0);
        CHECKS.refused("undo()", p, p.undo(), 6);
        CHECKS.refused("restore()", p, p.restore(), 6);
        CHECKS.due("jobCount()", p.jobCount(), 0);
    }

    private static void theLatestLoadTellsItsError() {
        TrolleyPlanner p = new TrolleyPlanner();
        Texts.load(p, "train 0 from 0 to 9;train 0");
        CHECKS.due("parseError()", p.parseError(), 3);
        CHECKS.due("errorPosition()", p.errorPosition(), 26);
        p.load(1);
        CHECKS.due("parseError() after error 2", p.parseError(), 3);
        CHECKS.due("errorPosition() after error 2", p.errorPosition(), 26);
        CHECKS.due("error()", p.error(), 2);
        Texts.load(p, WHOLE);
        CHECKS.due("parseError() after success", p.parseError(), 0);
        CHECKS.due("errorPosition() after success", p.errorPosition(), -1);
        p.carCount(2);
        p.parseError();
        p.errorPosition();
        p.buffered();
        CHECKS.due("error() after calls that set none", p.error(), 1);
    }

    private static void goodTexts() {
        CHECKS.goodText(WHOLE, 0);
        CHECKS.goodText("  " + WHOLE.replace(";", "  ;  ").replace(" ", "   ") + "  ", 0);
        CHECKS.goodText(WHOLE.replace(" 0 from 0 to 9", "0from00to009").replace("meal a 1", "meal a1"), 0);
        CHECKS.goodText(WHOLE + ";job 0 0 0 a 1;job 0 1 0 a 99", 2);
        CHECKS.goodText(WHOLE.replace("meal a ", "meal abcdefgh "), 0);
        CHECKS.goodText(WHOLE.replace("meal a ", "meal trains ") + ";meal ca 0 0;meal fro 20 20;meal z 0 1", 0);
        CHECKS.goodText(WHOLE + ";stock 0 a 999;meal b 1 1;stock 0 b 0;kitchen 99;stock 1 a 5", 0);
        CHECKS.goodText(WHOLE.replace("train 0 from 0 to 9", "train 0 from 900 to 999"), 0);
        CHECKS.goodText(WHOLE.replace("train 0 from 0 to 9", "train 0 from 900 to 900"), 0);
        CHECKS.goodText(WHOLE + ";trolley 0 99 9 5 5;car 0 99 99 99;car 1 0 0 0", 0);
        CHECKS.goodText("meal a 1 1;kitchen 5;trolley 0 1 1 1 1;train 1 from 0 to 9;car 1 1 2 3;job 0 1 0 a 1;"
            + "train 0 from 0 to 9;car 0 1 2 3", 1);
    }

    private static void wrongTokens() {
        CHECKS.badText("", 1, 0);
        CHECKS.badText("   ", 1, 3);
        CHECKS.badText("Train 0", 1, 0);
        CHECKS.badText("trains 0", 1, 0);
        CHECKS.badText("5", 1, 0);
        CHECKS.badText(";" + WHOLE, 1, 0);
        CHECKS.badText("train\t0", 1, 5);
        CHECKS.badText("train00from", 1, 11);
        CHECKS.badText("train \u00b0", 1, 6);
        CHECKS.badText("\u00f4rain", 1, 0);
        CHECKS.badText("train -1", 1, 6);
        CHECKS.badText("train 0000", 1, 6);
        CHECKS.badText("train 1000", 1, 6);
        CHECKS.badText("train 0 from 99999999999999999999", 1, 13);
        CHECKS.badText("meal abcdefghi 1 1", 1, 5);
        CHECKS.badText("meal abcdefghijklmnopqrstuvwxyz", 1, 5);
        CHECKS.badText("meal Abc 1 1", 1, 5);
        CHECKS.badText("train 0 from 0 to 9:", 1, 19);
        CHECKS.badText("train 0 from 0 to 9{", 1, 19);
        CHECKS.badText("train 0 from 0 to 9`", 1, 19);
    }

    private static void wrongLines() {
        CHECKS.badText("from", 1, 0);
        CHECKS.badText("train", 1, 5);
        CHECKS.badText("train  ", 1, 7);
        CHECKS.badText("train from", 1, 6);
        CHECKS.badText("train 0 to", 1, 8);
        CHECKS.badText("train 0 5", 1, 8);
        CHECKS.badText("train 0 from to", 1, 13);
        CHECKS.badText("train 0 from 0 from 9", 1, 15);
        CHECKS.badText("train 0 from 0 to ;", 1, 18);
        CHECKS.badText("train 0 from 0 to 9 9", 1, 20);
        CHECKS.badText("train 0 from 0 to 9 train", 1, 20);
        CHECKS.badText(WHOLE + ";", 1, WHOLE.length() + 1);
        CHECKS.badText(WHOLE + "; ;", 1, WHOLE.length() + 2);
        CHECKS.badText("meal 5 1 1", 1, 5);
        CHECKS.badText("meal ; 1 1", 1, 5);
        for (String word : "train car meal kitchen stock trolley job from to".split(" ")) {
            CHECKS.badText("meal " + word + " 1 1", 1, 5);
            CHECKS.badText(KITCHEN + ";stock 0 " + word, 1, KITCHEN.length() + 9);
            CHECKS.badText(WHOLE + ";job 0 0 0 " + word, 1, WHOLE.length() + 11);
        }
        CHECKS.badText(TRAINS + ";car 0 1 2", 1, TRAINS.length() + 10);
        CHECKS.badText(TRAINS + ";car 0 1 2;car", 1, TRAINS.length() + 10);
        CHECKS.badText(TRAINS + ";car a", 1, TRAINS.length() + 5);
        CHECKS.badText("meal a 1", 1, 8);
        CHECKS.badText("meal a b", 1, 7);
        CHECKS.badText("kitchen", 1, 7);
        CHECKS.badText("kitchen a", 1, 8);
        CHECKS.badText(KITCHEN + ";stock a", 1, KITCHEN.length() + 7);
        CHECKS.badText(KITCHEN + ";stock 0 1", 1, KITCHEN.length() + 9);
        CHECKS.badText(KITCHEN + ";stock 0 a", 1, KITCHEN.length() + 10);
        CHECKS.badText(KITCHEN + ";trolley 0 1 1 1", 1, KITCHEN.length() + 16);
        CHECKS.badText(KITCHEN + ";trolley a", 1, KITCHEN.length() + 9);
        CHECKS.badText(WHOLE + ";job 0 0 0 a", 1, WHOLE.length() + 12);
        CHECKS.badText(WHOLE + ";job 0 0 0 5", 1, WHOLE.length() + 11);
        CHECKS.badText(WHOLE + ";job a", 1, WHOLE.length() + 5);
        CHECKS.badText(WHOLE + ";job 0 a", 1, WHOLE.length() + 7);
    }

    private static void unknownAndOutOfRange() {
        CHECKS.badText("train 2 from", 2, 6);
        CHECKS.badText("train 0 from 901", 2, 13);
        CHECKS.badText("train 0 from 10 to 9", 2, 19);
        CHECKS.badText("train 0 from 901 to 1000", 2, 13);
        CHECKS.badText("car 0 1 1 1", 2, 4);
        CHECKS.badText("train 1 from 0 to 9;car 0", 2, 24);
        CHECKS.badText(TRAINS + ";car 2", 2, TRAINS.length() + 5);
        CHECKS.badText(TRAINS + ";car 0 100", 2, TRAINS.length() + 7);
        CHECKS.badText(TRAINS + ";car 0 1 100", 2, TRAINS.length() + 9);
        CHECKS.badText(TRAINS + ";car 0 1 1 100", 2, TRAINS.length() + 11);
        CHECKS.badText("meal a 21 1", 2, 7);
        CHECKS.badText("meal a 1 21", 2, 9);
        CHECKS.badText("kitchen 100", 2, 8);
        CHECKS.badText("meal a 1 1;stock 0 a 1", 2, 17);
        CHECKS.badText(KITCHEN + ";stock 1", 2, KITCHEN.length() + 7);
        CHECKS.badText(KITCHEN + ";stock 0 b", 2, KITCHEN.length() + 9);
        CHECKS.badText("kitchen 1;stock 0 a", 2, 18);
        CHECKS.badText("trolley 0 1 1 1 1", 2, 8);
        CHECKS.badText(KITCHEN + ";trolley 1", 2, KITCHEN.length() + 9);
        String[] ranges = {"0 0", "0 100", "0 1 0", "0 1 10", "0 1 1 0", "0 1 1 6", "0 1 1 1 0", "0 1 1 1 6"};
        for (String range : ranges) {
            CHECKS.badText(KITCHEN + ";trolley " + range, 2, KITCHEN.length() + 9 + range.lastIndexOf(' ') + 1);
        }
        CHECKS.badText(KITCHEN + ";job 0", 2, KITCHEN.length() + 5);
        CHECKS.badText(WHOLE + ";job 1", 2, WHOLE.length() + 5);
        CHECKS.badText(WHOLE + ";job 0 2", 2, WHOLE.length() + 7);
        CHECKS.badText("kitchen 5;trolley 0 1 1 1 1;train 0 from 0 to 9;job 0 1", 2, 54);
        CHECKS.badText("kitchen 5;trolley 0 1 1 1 1;train 0 from 0 to 9;job 0 0 0", 2, 56);
        CHECKS.badText(WHOLE + ";job 0 0 1", 2, WHOLE.length() + 9);
        CHECKS.badText(WHOLE + ";job 0 0 0 b", 2, WHOLE.length() + 11);
        CHECKS.badText(WHOLE + ";job 0 0 0 a 0", 2, WHOLE.length() + 13);
        CHECKS.badText(WHOLE + ";job 0 0 0 a 100", 2, WHOLE.length() + 13);
    }

    private static void twice() {
        CHECKS.badText(TRAINS + ";train 1 to", 3, TRAINS.length() + 7);
        CHECKS.badText("meal a 1 1;meal b 1 1;meal a 5 5", 3, 27);
        CHECKS.badText("meal abcdefgh 1 1;meal abcdefgh", 3, 23);
        CHECKS.badText("kitchen 1;meal a 1 1;stock 0 a 5;stock 0 a x", 3, 41);
        CHECKS.badText("kitchen 1;meal a 1 1;stock 0 a 0;stock 0 a 1", 3, 41);
    }

    private static void tooMany() {
        String fiveCars = TRAINS + ";car 0 1 1 1".repeat(5);
        CHECKS.badText(fiveCars + ";car 1 1 1 1;car 0 x", 4, fiveCars.length() + 17);
        CHECKS.badText("meal a 1 1;meal b 1 1;meal c 1 1;meal d 1 1;meal 5", 4, 44);
        CHECKS.badText("kitchen 1;kitchen 1;kitchen 1;kitchen", 4, 30);
        String fiveTrolleys = KITCHEN + ";trolley 0 1 1 1 1".repeat(5);
        CHECKS.badText(fiveTrolleys + ";trolley 9", 4, fiveTrolleys.length() + 1);
        String eightJobs = fiveTrolleys + ";job 1 0 0 a 1".repeat(8);
        CHECKS.goodText(eightJobs, 8);
        CHECKS.badText(eightJobs + ";job 1", 4, eightJobs.length() + 5);
        String twentyJobs = eightJobs + ";job 2 0 0 a 1".repeat(8) + ";job 0 1 0 a 2".repeat(4);
        CHECKS.goodText(twentyJobs, 20);
        CHECKS.badText(twentyJobs + ";job", 4, twentyJobs.length() + 1);
    }

    private static void incompletePlans() {
        CHECKS.badText("kitchen 1", 5, 9);
        CHECKS.badText("kitchen 1  ", 5, 11);
        CHECKS.badText(CARS + ";meal a 1 1", 5, CARS.length() + 11);
        CHECKS.badText(CARS + ";kitchen 1;trolley 0 1 1 1 1", 5, CARS.length() + 28);
        CHECKS.badText(KITCHEN, 5, KITCHEN.length());
        CHECKS.badText(WHOLE.replace(";car 1 1 2 3", ""), 5, WHOLE.length() - 12);
        CHECKS.badText(WHOLE.replace(";car 0 1 2 3", ""), 5, WHOLE.length() - 12);
        CHECKS.badText(WHOLE.replace(";train 1 from 0 to 9", "").replace(";car 1 1 2 3", ""), 5, WHOLE.length() - 32);
    }

    private static void theSmallestCodeOfAToken() {
        CHECKS.badText("train 0 from 0 to 9;train 2", 2, 26);
        CHECKS.badText(KITCHEN + ";stock 0 a 1;stock 0 b", 2, KITCHEN.length() + 21);
        CHECKS.badText("kitchen 1;kitchen 1;kitchen 1;kitchens", 1, 30);
        CHECKS.badText("train 0 from 0 to 9;train 1000", 1, 26);
        CHECKS.badText("kitchen 1;", 1, 10);
    }

    private InputTest() {
    }
}
