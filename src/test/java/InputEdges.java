import java.util.Arrays;
import java.util.List;
import java.util.function.ToIntFunction;

/** The edges of section 1 and of promises 1 to 6: the input buffer and the text format. */
final class InputEdges {
    private static final String TRAINS = "train 0 from 0 to 9;train 1 from 0 to 9";
    private static final String CARS = TRAINS + ";car 0 1 2 3;car 1 1 2 3";
    private static final String KITCHEN = CARS + ";meal a 1 1;kitchen 5";
    private static final String WHOLE = KITCHEN + ";trolley 0 1 1 1 1";
    private static final String THREE_KITCHENS = WHOLE + ";kitchen 5;kitchen 5";
    private static final String FIVE_TROLLEYS = WHOLE + ";trolley 0 1 1 1 1".repeat(4);
    private static final String FIVE_CARS = WHOLE + ";car 0 1 2 3".repeat(4);
    private static final String FOUR_MEALS = WHOLE + ";meal b 1 1;meal c 1 1;meal d 1 1";
    private static final String TWENTY_JOBS = FIVE_TROLLEYS + ";job 0 0 0 a 1".repeat(7) + ";job 1 0 0 a 1".repeat(7)
        + ";job 2 0 0 a 1".repeat(6);
    private static final String KEYWORDS = "train car meal kitchen stock trolley job from to";

    static void tell(Edges e) {
        tokens(e);
        lines(e);
        numbersAndNames(e);
        counts(e);
        positions(e);
        codes(e);
        aNewObject(e);
        append(e);
        load(e);
        parseErrors(e);
    }

    // ---- what the tests below share

    private static String behind(String prefix, String line) {
        return prefix.isEmpty() ? line : prefix + ";" + line;
    }

    /** The line behind the prefix has that error at its k-th token, from 0; behind the last one is the end of the text. */
    private static void bad(Checks c, String prefix, String line, int code, int k) {
        String[] tokens = line.split(" ");
        int at = behind(prefix, "").length();
        for (int token = 0; token < k && token < tokens.length; token++) {
            at += tokens[token].length() + (token + 1 < tokens.length ? 1 : 0);
        }
        c.badText(behind(prefix, line), code, at);
    }

    /** The text has no error before its end: it is a plan, or only lacks something that a plan must have. */
    private static void taken(Checks c, String text) {
        TrolleyPlanner p = new TrolleyPlanner();
        if (Texts.load(p, text) == Checks.FAILED) {
            c.due("parseError of " + text, p.parseError(), 5);
            c.due("errorPosition of " + text, p.errorPosition(), text.length());
        }
        c.due("error 5 or none of " + text, p.parseError() % 5, 0);
    }

    private static String with(String line, int k, String token) {
        String[] tokens = line.split(" ");
        tokens[k] = token;
        return String.join(" ", tokens);
    }

    /** At the k-th token of the line the numbers low to high are taken, and no others. */
    private static void range(Checks c, String prefix, String line, int k, int low, int high) {
        taken(c, behind(prefix, with(line, k, "" + low)));
        taken(c, behind(prefix, with(line, k, "" + high)));
        taken(c, behind(prefix, with(line, k, String.format("%03d", low))));
        taken(c, behind(prefix, with(line, k, String.format("%03d", high))));
        if (low > 0) {
            bad(c, prefix, with(line, k, "" + (low - 1)), 2, k);
            bad(c, prefix, with(line, k, "0"), 2, k);
            bad(c, prefix, with(line, k, "000"), 2, k);
        }
        if (high < 999) {
            bad(c, prefix, with(line, k, "" + (high + 1)), 2, k);
            bad(c, prefix, with(line, k, "999"), 2, k);
        }
        bad(c, prefix, with(line, k, "1000"), 1, k);
        bad(c, prefix, with(line, k, "-" + low), 1, k);
    }

    /** Each token of the line is needed, of its own kind, and none behind them. */
    private static void shape(Checks c, String prefix, String line) {
        String[] tokens = line.split(" ");
        taken(c, behind(prefix, line));
        for (int k = 0; k < tokens.length; k++) {
            boolean number = tokens[k].matches("[0-9]+");
            bad(c, prefix, with(line, k, number ? "x" : "5"), 1, k);
            bad(c, prefix, with(line, k, ";"), 1, k);
            bad(c, prefix, with(line, k, "abcdefghi"), 1, k);
            bad(c, prefix, with(line, k, "0000"), 1, k);
            bad(c, prefix, with(line, k, "?"), 1, k);
            if (List.of(KEYWORDS.split(" ")).contains(tokens[k])) {
                bad(c, prefix, with(line, k, tokens[k] + "x"), 1, k);
                bad(c, prefix, with(line, k, tokens[k].substring(1)), 1, k);
            }
            String cut = String.join(" ", Arrays.copyOf(tokens, k));
            if (k > 0) {
                bad(c, prefix, cut, 1, k);
                c.badText(behind(prefix, cut) + "   ", 1, behind(prefix, cut).length() + 3);
            }
        }
        bad(c, prefix, line + " 5", 1, tokens.length);
        bad(c, prefix, line + " x", 1, tokens.length);
        bad(c, prefix, line + " kitchen 5", 1, tokens.length);
    }

    // ---- section 1: tokens

    private static void tokens(Edges e) {
        e.test("Section 1", "The input buffer holds at most 900 bytes.", c -> {
            String job = ";job 0 0 0 a 98";
            String text = WHOLE + " ".repeat(900 - WHOLE.length() - job.length()) + job;
            TrolleyPlanner p = new TrolleyPlanner();
            c.answered("load of 900 bytes", p, Texts.load(p, text), 1);
            c.answered("the number in bytes 898 and 899", p, p.jobQuantity(0), 98);
            Texts.append(p, text);
            c.answered("load of the first 899 bytes", p, p.load(899), 1);
            c.answered("the number in byte 898", p, p.jobQuantity(0), 9);
            c.badText("?" + " ".repeat(899), 1, 0);
            c.badText(" ".repeat(899) + "?", 1, 899);
            c.badText(" ".repeat(900), 1, 900);
        });
        e.test("Section 1", "Tokens are words", c -> {
            for (String name : new String[] {"b", "z", "zzzzzzzz", "aaaaaaaa", "az", "bcdefgh", "abcdefg"}) {
                c.goodText(WHOLE + ";meal " + name + " 1 1", 0);
            }
            for (String letters : new String[] {"aaaaaaaaa", "abcdefghi", "zzzzzzzzz", "abcdefghijklmnop", "a".repeat(300)}) {
                bad(c, WHOLE, "meal " + letters + " 1 1", 1, 1);
                bad(c, WHOLE, letters, 1, 0);
            }
            for (String digits : new String[] {"0", "9", "00", "09", "000", "009"}) {
                c.goodText(WHOLE + ";kitchen " + digits, 0);
            }
            String[] longOnes = {"0000", "0001", "1000", "9999", "4294967296", "4294967297", "18446744073709551617",
                "0".repeat(300)};
            for (String digits : longOnes) {
                bad(c, WHOLE, "kitchen " + digits, 1, 1);
            }
            // The bytes beside a, z, 0, 9 and the semicolon are in no token.
            for (char other : "`{/:<".toCharArray()) {
                bad(c, WHOLE, "meal " + other + " 1 1", 1, 1);
                bad(c, WHOLE, "kitchen " + other, 1, 1);
                c.badText(WHOLE + other + "kitchen 5", 1, WHOLE.length());
            }
            // Names are told apart by each of their letters, the first and the last of eight among them.
            c.goodText(KITCHEN + ";meal abcdefgh 1 1;meal bbcdefgh 1 1;meal abcdefgi 1 1;trolley 0 1 1 1 1", 0);
            c.goodText(KITCHEN + ";meal aa 1 1;meal aaa 1 1;meal aaaaaaaa 1 1;trolley 0 1 1 1 1", 0);
        });
        e.test("Section 1", "Blanks (byte 32) only separate tokens.", c -> {
            c.goodText(WHOLE, 0);
            c.goodText("   " + WHOLE.replace(" ", "   ").replace(";", "   ;   ") + "   ", 0);
            c.goodText(WHOLE.replace("train ", "train").replace(" from ", "from").replace(" to ", "to").replace("kitchen 5",
                "kitchen5"), 0);
            bad(c, WHOLE, "kit chen 5", 1, 0);
            bad(c, WHOLE, "kitchen 1 2", 1, 2);
            for (int value = 0; value < 256; value++) {
                char one = (char) value;
                boolean starts = one == ' ' || one == ';' || one >= '0' && one <= '9' || one >= 'a' && one <= 'z';
                if (!starts) {
                    c.badText(WHOLE + one, 1, WHOLE.length());
                    c.badText("kitchen " + one + "5", 1, 8);
                }
            }
            for (char one : "\t\n\r\u0000\u0020\u00a0".toCharArray()) {
                c.badText(one + "?" + WHOLE, 1, one == ' ' ? 1 : 0);
            }
        });
        e.test("Section 1", "A run of letters ends at the first byte that is not a lower-case letter", c -> {
            c.goodText(WHOLE.replace("train 0 from 0 to 9", "train0from0to9").replace("meal a 1 1", "meal a1 1"), 0);
            c.goodText(WHOLE + ";meal b0 1;stock0b999;job0 0 0b1", 1);
            String front = WHOLE + ";meal ";
            for (char end : "A`{_-\u0000\u007f\u0080\u00e4\u00ff".toCharArray()) {
                c.badText(front + "b" + end + " 1 1", 1, front.length() + 1);
                c.badText(front + "abcdefgh" + end + " 1 1", 1, front.length() + 8);
                c.badText(WHOLE + ";kitchen 5" + end, 1, WHOLE.length() + 10);
                c.badText(WHOLE + ";kitchen 000" + end, 1, WHOLE.length() + 12);
            }
            c.badText(front + "b;", 1, front.length() + 1);
            c.badText(WHOLE + ";trainS 0", 1, WHOLE.length() + 6);
            c.badText("train 0x", 1, 7);
            c.badText("train 0from0from", 1, 12);
            // A run that is too long is one token, and the error is at its first byte.
            c.badText(front + "abcdefghi? 1 1", 1, front.length());
            c.badText(WHOLE + ";kitchen 0000?", 1, WHOLE.length() + 9);
        });
    }

    // ---- section 1: lines

    private static void lines(Edges e) {
        e.noEdge("Section 1", "The grammar, with literals in quotes:");
        e.test("Section 1", "text = line {\";\" line}", c -> {
            c.badText("", 1, 0);
            c.badText(" ", 1, 1);
            c.badText(";", 1, 0);
            c.badText("kitchen 5", 5, 9);
            c.badText("kitchen 5;", 1, 10);
            c.badText("kitchen 5; ", 1, 11);
            c.badText("kitchen 5;;kitchen 5", 1, 10);
            c.badText(";kitchen 5", 1, 0);
            c.badText("kitchen 5 kitchen 5", 1, 10);
            c.badText("kitchen 5 5", 1, 10);
            c.goodText(WHOLE, 0);
            c.badText(WHOLE + ";", 1, WHOLE.length() + 1);
            c.goodText(Texts.full(), 20);
            c.badText(Texts.full() + ";", 1, Texts.full().length() + 1);
        });
        e.test("Section 1", "line = \"train\" T", c -> shape(c, "kitchen 5", "train 0 from 1 to 2"));
        e.test("Section 1", "line = \"car\" T", c -> shape(c, WHOLE, "car 0 1 2 3"));
        e.test("Section 1", "line = \"meal\" NAME", c -> shape(c, WHOLE, "meal b 1 2"));
        e.test("Section 1", "line = \"kitchen\" PLACE", c -> shape(c, WHOLE, "kitchen 1"));
        e.test("Section 1", "line = \"stock\" KITCHEN", c -> shape(c, WHOLE, "stock 0 a 1"));
        e.test("Section 1", "line = \"trolley\" KITCHEN", c -> shape(c, WHOLE, "trolley 0 1 2 3 4"));
        e.test("Section 1", "line = \"job\" TROLLEY", c -> shape(c, WHOLE, "job 0 1 0 a 1"));
        e.test("Section 1", "A NAME is any word except", c -> {
            for (String word : KEYWORDS.split(" ")) {
                bad(c, WHOLE, "meal " + word + " 1 1", 1, 1);
                c.goodText(WHOLE + ";meal " + word + "s 1 1;stock 0 " + word + "s 5", 0);
                c.goodText(WHOLE + ";meal " + word.substring(1) + "x 1 1", 0);
                c.goodText(WHOLE + ";meal x" + word.substring(1) + " 1 1", 0);
                c.goodText(WHOLE + ";meal " + word.substring(0, word.length() - 1) + " 1 1", 0);
            }
        });
        e.test("Section 1", "MEAL is the NAME of an earlier meal line.", c -> {
            for (String name : "a b c d".split(" ")) {
                c.goodText(FOUR_MEALS + ";stock 0 " + name + " 5;job 0 0 0 " + name + " 5", 1);
            }
            bad(c, WHOLE, "stock 0 b 5;meal b 1 1", 2, 2);
            bad(c, WHOLE, "job 0 0 0 b 5;meal b 1 1", 2, 4);
            bad(c, "kitchen 5", "stock 0 a 5", 2, 2);
            bad(c, FOUR_MEALS, "stock 0 e 5", 2, 2);
            bad(c, FOUR_MEALS, "stock 0 aa 5", 2, 2);
            bad(c, FOUR_MEALS, "job 0 0 0 ab 5", 2, 4);
            // A meal of the plan before it is none of this text.
            TrolleyPlanner p = Texts.plan(WHOLE + ";meal b 1 1");
            c.refused("load", p, Texts.load(p, WHOLE + ";stock 0 b 5"), 4);
            c.due("parseError()", p.parseError(), 2);
        });
    }

    // ---- section 1: numbers and names

    private static void numbersAndNames(Edges e) {
        e.test("Section 1", "All other names in capitals are numbers.", c -> {
            String[] lines = {"car 0 1 2 3", "meal b 1 2", "kitchen 1", "stock 0 a 1", "trolley 0 1 2 3 4", "job 0 1 0 a 1"};
            for (String line : lines) {
                for (int k = 1; k < line.split(" ").length; k++) {
                    if (Character.isDigit(line.split(" ")[k].charAt(0))) {
                        bad(c, WHOLE, with(line, k, "a"), 1, k);
                        bad(c, WHOLE, with(line, k, "to"), 1, k);
                        bad(c, WHOLE, with(line, k, ";"), 1, k);
                    }
                }
            }
            bad(c, "", "train a", 1, 1);
            bad(c, "", "train 0 from a", 1, 3);
            bad(c, "", "train 0 from 0 to a", 1, 5);
        });
        e.test("Section 1", "T (a train) is 0 or 1; in a car line and a job line that train has an earlier train line.", c -> {
            range(c, "kitchen 5", "train 0 from 1 to 2", 1, 0, 1);
            range(c, WHOLE, "car 0 1 2 3", 1, 0, 1);
            range(c, WHOLE, "job 0 0 0 a 1", 2, 0, 1);
            for (int t = 0; t < 2; t++) {
                String other = "train " + (1 - t) + " from 0 to 9";
                bad(c, "kitchen 5", "car " + t + " 1 2 3;train " + t + " from 0 to 9", 2, 1);
                bad(c, other, "car " + t + " 1 2 3", 2, 1);
                taken(c, other + ";car " + (1 - t) + " 1 2 3");
                String one = other + ";car " + (1 - t) + " 1 2 3;kitchen 5;meal a 1 1;trolley 0 1 1 1 1";
                bad(c, one, "job 0 " + t + " 0 a 1", 2, 2);
                taken(c, one + ";job 0 " + (1 - t) + " 0 a 1");
            }
            // A train of the plan before it is none of this text.
            TrolleyPlanner p = Texts.plan(WHOLE);
            c.refused("load", p, Texts.load(p, "car 0 1 2 3"), 4);
            c.due("parseError()", p.parseError(), 2);
            c.due("errorPosition()", p.errorPosition(), 4);
        });
        e.test("Section 1", "ARRIVAL is 0 to 900, DEPARTURE is ARRIVAL to 999.", c -> {
            range(c, "kitchen 5", "train 0 from 0 to 999", 3, 0, 900);
            range(c, "kitchen 5", "train 1 from 0 to 999", 3, 0, 900);
            range(c, "kitchen 5", "train 0 from 0 to 5", 5, 0, 999);
            range(c, "kitchen 5", "train 0 from 1 to 5", 5, 1, 999);
            range(c, "kitchen 5", "train 1 from 500 to 600", 5, 500, 999);
            range(c, "kitchen 5", "train 1 from 900 to 950", 5, 900, 999);
            bad(c, "", "train 0 from 901 to 900", 2, 3);
        });
        e.test("Section 1", "DOOR and PLACE are 0 to 99", c -> {
            range(c, WHOLE, "car 0 1 2 3", 2, 0, 99);
            range(c, WHOLE, "car 1 1 2 3", 2, 0, 99);
            range(c, WHOLE, "kitchen 1", 1, 0, 99);
            range(c, WHOLE, "car 0 1 2 3", 3, 0, 99);
            range(c, WHOLE, "car 0 1 2 3", 4, 0, 99);
            range(c, WHOLE, "meal b 1 2", 2, 0, 20);
            range(c, WHOLE, "meal b 1 2", 3, 0, 20);
            range(c, WHOLE, "stock 0 a 1", 3, 0, 999);
            range(c, WHOLE, "job 0 0 0 a 1", 5, 1, 99);
            range(c, WHOLE, "trolley 0 1 1 1 1", 2, 1, 99);
            range(c, WHOLE, "trolley 0 1 1 1 1", 3, 1, 9);
            range(c, WHOLE, "trolley 0 1 1 1 1", 4, 1, 5);
            range(c, WHOLE, "trolley 0 1 1 1 1", 5, 1, 5);
        });
        e.test("Section 1", "KITCHEN and TROLLEY are numbers of earlier kitchen lines and trolley lines.", c -> {
            range(c, WHOLE, "stock 0 a 1", 1, 0, 0);
            range(c, THREE_KITCHENS, "stock 0 a 1", 1, 0, 2);
            range(c, WHOLE, "trolley 0 1 1 1 1", 1, 0, 0);
            range(c, THREE_KITCHENS, "trolley 0 1 1 1 1", 1, 0, 2);
            range(c, WHOLE, "job 0 0 0 a 1", 1, 0, 0);
            range(c, FIVE_TROLLEYS, "job 0 0 0 a 1", 1, 0, 4);
            bad(c, CARS + ";meal a 1 1", "stock 0 a 1;kitchen 5", 2, 1);
            bad(c, CARS + ";meal a 1 1", "trolley 0 1 1 1 1;kitchen 5", 2, 1);
            bad(c, KITCHEN, "job 0 0 0 a 1;trolley 0 1 1 1 1", 2, 1);
            bad(c, WHOLE, "stock 1 a 1;kitchen 5", 2, 1);
            bad(c, WHOLE, "job 1 0 0 a 1;trolley 0 1 1 1 1", 2, 1);
        });
        e.test("Section 1", "CAR is the number of an earlier car line of that train.", c -> {
            range(c, WHOLE, "job 0 0 0 a 1", 3, 0, 0);
            range(c, FIVE_CARS, "job 0 0 0 a 1", 3, 0, 4);
            range(c, FIVE_CARS, "job 0 1 0 a 1", 3, 0, 0);
            range(c, FIVE_CARS.replace("car 0 1 2 3;car 1", "car 1 1 2 3;car 1"), "job 0 1 0 a 1", 3, 0, 1);
            bad(c, WHOLE, "job 0 0 1 a 1;car 0 1 2 3", 2, 3);
            bad(c, TRAINS + ";car 1 1 2 3;kitchen 5;meal a 1 1;trolley 0 1 1 1 1", "job 0 0 0 a 1;car 0 1 2 3", 2, 3);
        });
    }

    // ---- section 1: how many there are

    private static void counts(Edges e) {
        e.test("Section 1", "Kitchens, trolleys, meals and jobs are each numbered from 0", c -> {
            TrolleyPlanner p = Texts.plan("kitchen 3;meal x 10 0;train 1 from 0 to 99;car 1 3 1 0;meal y 20 0;stock 0 y 8;"
                + "kitchen 5;train 0 from 0 to 99;car 0 3 2 0;stock 1 x 7;trolley 1 1 1 1 1;car 1 3 3 0;trolley 0 9 1 1 1;"
                + "job 1 1 1 y 2;car 0 3 4 0;job 0 0 1 x 1");
            c.answered("stock(0, 1)", p, p.stock(0, 1), 8);
            c.answered("stock(1, 0)", p, p.stock(1, 0), 7);
            c.answered("demand(1, 0, 0)", p, p.demand(1, 0, 0), 1);
            c.answered("demand(0, 0, 1)", p, p.demand(0, 0, 1), 4);
            c.answered("demand(1, 1, 0)", p, p.demand(1, 1, 0), 3);
            c.answered("demand(0, 1, 1)", p, p.demand(0, 1, 1), 8);
            c.answered("jobTrolley(0)", p, p.jobTrolley(0), 1);
            c.answered("jobTrolley(1)", p, p.jobTrolley(1), 0);
            c.answered("delivered(1, 1, 1)", p, p.delivered(1, 1, 1), 2);
            c.answered("delivered(0, 1, 0)", p, p.delivered(0, 1, 0), 1);
            c.answered("finalStock(0, 1)", p, p.finalStock(0, 1), 6);
            c.answered("finalStock(1, 0)", p, p.finalStock(1, 0), 6);
            TrolleyPlanner full = Texts.plan(Texts.full());
            c.answered("the last stock", full, full.stock(2, 3), 203);
            c.answered("the last demand of train 0", full, full.demand(0, 4, 3), 6);
            c.answered("the last demand of train 1", full, full.demand(1, 4, 3), 7);
            c.answered("the first demand of train 1", full, full.demand(1, 0, 0), 1);
            c.answered("the last job's trolley", full, full.jobTrolley(19), 4);
            c.answered("the last job's quantity", full, full.jobQuantity(19), 20);
        });
        e.test("Section 1", "There are at most 5 cars of each train, 4 meals, 3 kitchens, 5 trolleys, and 20 jobs", c -> {
            c.goodText(Texts.full(), 20);
            c.goodText(FIVE_CARS, 0);
            c.goodText(FIVE_CARS + ";car 1 1 2 3".repeat(4), 0);
            bad(c, FIVE_CARS, "car 0 1 2 3", 4, 1);
            bad(c, WHOLE + ";car 1 1 2 3".repeat(4), "car 1 1 2 3", 4, 1);
            bad(c, FIVE_CARS + ";car 1 1 2 3".repeat(4), "car 1 1 2 3", 4, 1);
            c.goodText(FOUR_MEALS, 0);
            bad(c, FOUR_MEALS, "meal e 1 1", 4, 0);
            c.goodText(THREE_KITCHENS, 0);
            bad(c, THREE_KITCHENS, "kitchen 5", 4, 0);
            c.goodText(FIVE_TROLLEYS, 0);
            bad(c, FIVE_TROLLEYS, "trolley 0 1 1 1 1", 4, 0);
            c.goodText(TWENTY_JOBS, 20);
            bad(c, TWENTY_JOBS, "job 3 0 0 a 1", 4, 0);
            String eight = FIVE_TROLLEYS + Texts.eightJobs(4, 0);
            c.goodText(eight, 8);
            bad(c, eight, "job 4 0 0 a 1", 4, 1);
            c.goodText(eight + ";job 3 0 0 a 1", 9);
            c.goodText(eight + Texts.eightJobs(0, 1) + ";job 3 0 0 a 1".repeat(4), 20);
            bad(c, eight + Texts.eightJobs(0, 1), "job 0 0 0 a 1", 4, 1);
        });
        e.test("Section 1", "The stock of a kitchen in a meal without a stock line is 0.", c -> {
            TrolleyPlanner p = Texts.plan(THREE_KITCHENS + ";meal b 1 1;stock 1 b 999");
            for (int kitchen = 0; kitchen < 3; kitchen++) {
                for (int meal = 0; meal < 2; meal++) {
                    c.answered("stock(" + kitchen + ", " + meal + ")", p, p.stock(kitchen, meal),
                        kitchen == 1 && meal == 1 ? 999 : 0);
                }
            }
            for (int load = 0; load < 3; load++) {
                c.answered("load", p, Texts.load(p, THREE_KITCHENS + ";meal b 1 1"), 0);
                c.answered("stock(1, 1) of the next plan", p, p.stock(1, 1), 0);
            }
        });
    }

    // ---- section 1: positions

    private static void positions(Edges e) {
        e.test("Section 1", "Parsing stops at the first token, from the left, at which an error is found", c -> {
            // Two errors at two tokens: the left one, also if it has the greater code.
            bad(c, WHOLE, "kitchen 100 x", 2, 1);
            bad(c, FOUR_MEALS, "meal a x", 4, 0);
            bad(c, TWENTY_JOBS, "job 9", 4, 0);
            bad(c, TWENTY_JOBS, "job 0 0 0 a 0", 4, 0);
            bad(c, TRAINS, "train 0 x", 3, 1);
            bad(c, FIVE_CARS, "car 0 100", 4, 1);
            bad(c, "", "train 2 5", 2, 1);
            // Several errors at one token: the smallest code.
            bad(c, "", "train 0000", 1, 1);
            bad(c, TRAINS, "train 2 from", 2, 1);
            bad(c, TRAINS, "train 0000", 1, 1);
            bad(c, FOUR_MEALS, "meals e 1 1", 1, 0);
            bad(c, TWENTY_JOBS, "jobs", 1, 0);
            bad(c, "train 0 from 0 to 9", "car 1 1 2 3", 2, 1);
            bad(c, "", "kitchen", 1, 1);
            c.badText("kitchen 5;", 1, 10);
            bad(c, WHOLE + ";stock 0 a 1", "stock 0 to 1", 1, 2);
            bad(c, WHOLE + ";stock 0 a 1", "stock 0 b 1", 2, 2);
        });
        e.test("Section 1", "The position of an error is the index of the token's first byte", c -> {
            c.badText("?", 1, 0);
            c.badText("x", 1, 0);
            c.badText("xyz", 1, 0);
            c.badText("   xyz   ", 1, 3);
            c.badText("kitchen   100   ", 2, 10);
            c.badText("kitchen 5", 5, 9);
            c.badText("kitchen 5   ", 5, 12);
            c.badText("kitchen", 1, 7);
            c.badText("kitchen   ", 1, 10);
            c.badText(" ".repeat(897) + "xyz", 1, 897);
            c.badText(" ".repeat(891) + "kitchen 5", 5, 900);
            c.badText(" ".repeat(893) + "kitchen", 1, 900);
            // The number of bytes is the count of load, not that in the buffer.
            TrolleyPlanner p = new TrolleyPlanner();
            Texts.append(p, "kitchen 5           ");
            c.refused("load(9)", p, p.load(9), 4);
            c.due("errorPosition()", p.errorPosition(), 9);
        });
    }

    // ---- section 1: codes

    private static void codes(Edges e) {
        e.test("Section 1", "1: a byte that starts no token", c -> {
            bad(c, WHOLE, "? 5", 1, 0);
            bad(c, WHOLE, "\u00ff", 1, 0);
            bad(c, WHOLE, "\u0000", 1, 0);
            bad(c, WHOLE, "meal abcdefghi 1 1", 1, 1);
            taken(c, WHOLE + ";meal abcdefgh 1 1");
            bad(c, WHOLE, "kitchen 0005", 1, 1);
            taken(c, WHOLE + ";kitchen 005");
            bad(c, WHOLE, "stop", 1, 0);
            bad(c, WHOLE, "5", 1, 0);
            bad(c, WHOLE, "from", 1, 0);
            bad(c, WHOLE, "a", 1, 0);
            for (String word : KEYWORDS.split(" ")) {
                bad(c, WHOLE, "meal " + word, 1, 1);
                bad(c, WHOLE, "stock 0 " + word, 1, 2);
                bad(c, WHOLE, "job 0 0 0 " + word, 1, 4);
            }
            bad(c, WHOLE, "job 0 0 0 a", 1, 5);
            c.badText(WHOLE + "; ", 1, WHOLE.length() + 2);
        });
        e.test("Section 1", "2: a number out of range, a train without an earlier train line", c -> {
            bad(c, WHOLE, "kitchen 100", 2, 1);
            bad(c, "", "train 2", 2, 1);
            bad(c, "", "car 0", 2, 1);
            bad(c, "", "car 2", 2, 1);
            bad(c, WHOLE, "stock 1", 2, 1);
            bad(c, WHOLE, "trolley 1", 2, 1);
            bad(c, WHOLE, "job 1", 2, 1);
            bad(c, WHOLE, "job 0 2", 2, 2);
            bad(c, WHOLE, "job 0 0 1", 2, 3);
            bad(c, WHOLE, "stock 0 aa", 2, 2);
            bad(c, WHOLE, "stock 0 b", 2, 2);
            bad(c, WHOLE, "job 0 0 0 b", 2, 4);
            bad(c, "kitchen 5;trolley 0 1 1 1 1;train 1 from 0 to 9;car 1 1 2 3", "job 0 0", 2, 2);
        });
        e.test("Section 1", "3: a second train line for a train (at T)", c -> {
            bad(c, TRAINS, "train 0", 3, 1);
            bad(c, TRAINS, "train 1 from 0 to 9", 3, 1);
            taken(c, "train 1 from 0 to 9;train 0 from 0 to 9");
            bad(c, WHOLE, "meal a 1 1", 3, 1);
            bad(c, WHOLE + ";meal b 1 1;meal c 1 1", "meal b", 3, 1);
            bad(c, WHOLE + ";meal b 1 1;meal c 1 1", "meal c", 3, 1);
            taken(c, WHOLE + ";meal b 1 1;meal c 1 1;meal bc 1 1");
            bad(c, WHOLE + ";stock 0 a 5", "stock 0 a 5", 3, 2);
            bad(c, WHOLE + ";stock 0 a 0", "stock 0 a", 3, 2);
            String all = FOUR_MEALS + ";kitchen 1;kitchen 2";
            for (int k = 0; k < 12; k++) {
                all += ";stock " + k / 4 + " " + "abcd".charAt(k % 4) + " " + k;
            }
            taken(c, all);
            for (int k = 0; k < 12; k++) {
                bad(c, all, "stock " + k / 4 + " " + "abcd".charAt(k % 4) + " 5", 3, 2);
            }
            // What stands in the plan before it, or in a text with an error, counts for nothing.
            TrolleyPlanner p = Texts.plan(WHOLE + ";stock 0 a 5");
            c.refused("load", p, Texts.load(p, WHOLE + ";stock 0 a 6;"), 4);
            c.answered("load", p, Texts.load(p, WHOLE + ";stock 0 a 7"), 0);
            c.answered("stock(0, 0)", p, p.stock(0, 0), 7);
        });
        e.test("Section 1", "4: a sixth car of a train (at T)", c -> {
            bad(c, FIVE_CARS, "car 0", 4, 1);
            taken(c, FIVE_CARS + ";car 1 1 2 3");
            bad(c, WHOLE + ";car 1 1 2 3".repeat(4), "car 1", 4, 1);
            bad(c, FOUR_MEALS, "meal", 4, 0);
            bad(c, FOUR_MEALS, "meal to", 4, 0);
            bad(c, THREE_KITCHENS, "kitchen", 4, 0);
            bad(c, FIVE_TROLLEYS, "trolley", 4, 0);
            bad(c, FIVE_TROLLEYS, "trolley 5", 4, 0);
            bad(c, TWENTY_JOBS, "job", 4, 0);
            bad(c, FIVE_TROLLEYS + Texts.eightJobs(4, 0), "job 4", 4, 1);
            bad(c, FIVE_TROLLEYS + Texts.eightJobs(4, 0), "job 4 9", 4, 1);
            bad(c, WHOLE + Texts.eightJobs(0, 0), "job 0", 4, 1);
            bad(c, WHOLE + Texts.eightJobs(0, 0), "job 1", 2, 1);
            // A twenty-first job that is a ninth of its trolley, too: at the first word.
            String full = FIVE_TROLLEYS + Texts.eightJobs(4, 0) + Texts.eightJobs(0, 1) + ";job 3 0 0 a 1".repeat(4);
            bad(c, full, "job 4 0 0 a 1", 4, 0);
        });
        e.test("Section 1", "5: at the end of the text: a train without a train line or without a car line; no meal; no", c -> {
            c.badText("kitchen 5", 5, 9);
            c.goodText(WHOLE, 0);
            String[][] missing = {{";car 0 1 2 3"}, {";car 1 1 2 3"}, {"train 0 from 0 to 9;", ";car 0 1 2 3"},
                {";train 1 from 0 to 9", ";car 1 1 2 3"}, {";meal a 1 1"}, {";trolley 0 1 1 1 1"},
                    {";kitchen 5", ";trolley 0 1 1 1 1"}};
            for (String[] lines : missing) {
                String text = WHOLE;
                for (String line : lines) {
                    text = text.replace(line, "");
                }
                c.badText(text, 5, text.length());
                c.badText(text + "  ", 5, text.length() + 2);
                c.badText(text + ";", 1, text.length() + 1);
            }
            // A kitchen without a trolley, and a plan without jobs or stocks, lack nothing.
            c.goodText(WHOLE + ";kitchen 5", 0);
        });
    }

    // ---- promise 1

    private static void aNewObject(Edges e) {
        e.test("Promise 1", "Creates an object without a plan and with an empty input buffer.", c -> {
            TrolleyPlanner p = new TrolleyPlanner();
            c.due("error()", p.error(), 0);
            c.due("buffered()", p.buffered(), 0);
            c.due("parseError()", p.parseError(), 0);
            c.due("errorPosition()", p.errorPosition(), -1);
            c.refused("jobCount()", p, p.jobCount(), 1);
            c.refused("undo()", p, p.undo(), 1);
            c.refused("restore()", p, p.restore(), 1);
            c.notServed(p, 0);
            c.refused("load(1)", p, p.load(1), 2);
            c.due("append", p.append(0, 0, 0, 0, 0), 20);
            // Two objects have nothing in common.
            TrolleyPlanner one = Texts.plan(WHOLE + ";job 0 0 0 a 5");
            TrolleyPlanner other = new TrolleyPlanner();
            c.refused("jobCount() of another object", other, other.jobCount(), 1);
            c.due("error() of the first one", one.error(), 0);
            c.due("buffered() of another object", other.buffered(), 0);
        });
    }

    // ---- promise 2

    private static int appendAt(TrolleyPlanner p, int at, int value) {
        int[] words = {0x20202020, 0x20202020, 0x20202020, 0x20202020, 0x20202020};
        int shift = 24 - at % 4 * 8;
        words[at / 4] = words[at / 4] & ~(255 << shift) | value << shift;
        return p.append(words[0], words[1], words[2], words[3], words[4]);
    }

    /** Each of the 256 values at that byte, and only blanks at the others: the error is at that byte, or there is none. */
    private static void byteAt(Checks c, int at) {
        for (int value : new int[] {0, 1, 31, 32, 33, 63, 127, 128, 160, 254, 255}) {
            TrolleyPlanner p = new TrolleyPlanner();
            c.due("append", appendAt(p, at, value), 20);
            c.refused("load(20)", p, p.load(20), 4);
            c.due("errorPosition() with " + value + " at " + at, p.errorPosition(), value == 32 ? 20 : at);
        }
    }

    private static void bytes(Checks c, int from, int to) {
        for (int at = from; at <= to; at++) {
            byteAt(c, at);
        }
    }

    private static void append(Edges e) {
        e.test("Promise 2", "Appends twenty bytes to the input buffer: the four bytes of each argument in order", c -> {
            // "kitchen 12;kitchen 3" twenty times over: each byte has to stand where it is.
            TrolleyPlanner p = new TrolleyPlanner();
            c.due("append", p.append(0x6b697463, 0x68656e20, 0x31323b6b, 0x69746368, 0x656e2033), 20);
            c.due("append", p.append(0x3b6b6974, 0x6368656e, 0x20343b20, 0x3fffffff, 0x80000000), 40);
            c.refused("load(40)", p, p.load(40), 4);
            c.due("parseError()", p.parseError(), 1);
            c.due("errorPosition()", p.errorPosition(), 32);
            c.due("append", p.append(0x6b697463, 0x68656e20, 0x31323b6b, 0x69746368, 0x656e2033), 20);
            c.refused("load(20)", p, p.load(20), 4);
            c.due("parseError()", p.parseError(), 5);
            c.due("append of the least ints", p.append(Integer.MIN_VALUE, Integer.MIN_VALUE, -1, -1, Integer.MAX_VALUE), 20);
            c.due("append of the greatest ints", p.append(Integer.MAX_VALUE, -1, 0, 1, Integer.MIN_VALUE), 40);
        });
        e.test("Promise 2", "Sets no error code.", c -> {
            TrolleyPlanner p = new TrolleyPlanner();
            p.append(0, 0, 0, 0, 0);
            c.due("error() at first", p.error(), 0);
            p.load(-1);
            p.append(0, 0, 0, 0, 0);
            c.due("error() after a success", p.error(), 2);
            for (int i = 0; i < 43; i++) {
                p.append(0, 0, 0, 0, 0);
            }
            c.due("append to a full buffer", p.append(0, 0, 0, 0, 0), Checks.FAILED);
            c.due("error() after a failure", p.error(), 2);
        });
        e.test("Promise 2", "- `a`: bytes 0 to 3", c -> bytes(c, 0, 3));
        e.test("Promise 2", "- `b`: bytes 4 to 7", c -> bytes(c, 4, 7));
        e.test("Promise 2", "- `c`: bytes 8 to 11", c -> bytes(c, 8, 11));
        e.test("Promise 2", "- `d`: bytes 12 to 15", c -> bytes(c, 12, 15));
        e.test("Promise 2", "- `e`: bytes 16 to 19", c -> bytes(c, 16, 19));
        e.test("Promise 2", "Returns the number of bytes in the buffer; FAILED if there would be more than 900", c -> {
            TrolleyPlanner p = new TrolleyPlanner();
            String text = WHOLE + " ".repeat(900 - WHOLE.length() - 14) + ";job 0 0 0 a 7";
            int[] w = Texts.words(text);
            for (int i = 0; i < w.length; i += 5) {
                c.due("append", p.append(w[i], w[i + 1], w[i + 2], w[i + 3], w[i + 4]), (i + 5) * 4);
            }
            for (int i = 0; i < 3; i++) {
                c.due("append to 900 bytes", p.append(-1, -1, -1, -1, -1), Checks.FAILED);
                c.due("buffered()", p.buffered(), 900);
            }
            c.answered("load of what was there", p, p.load(900), 1);
            c.answered("jobQuantity(0)", p, p.jobQuantity(0), 7);
            c.due("append to the emptied buffer", p.append(-1, -1, -1, -1, -1), 20);
        });
    }

    // ---- promise 3

    private static TrolleyPlanner changedAndSaved() {
        TrolleyPlanner p = Texts.plan(WHOLE + ";stock 0 a 30;job 0 0 0 a 5");
        p.setQuantity(0, 6);
        p.save();
        p.setQuantity(0, 7);
        return p;
    }

    private static void load(Edges e) {
        e.test("Promise 3", "Parses the first count bytes of the input buffer and empties the buffer, even if the parse", c -> {
            TrolleyPlanner p = new TrolleyPlanner();
            Texts.append(p, WHOLE + "?".repeat(500));
            c.answered("load of the first bytes", p, p.load(WHOLE.length()), 0);
            c.due("buffered()", p.buffered(), 0);
            c.refused("load(1) of the empty buffer", p, p.load(1), 2);
            Texts.append(p, "?" + WHOLE);
            c.refused("load of all but the last", p, p.load(WHOLE.length()), 4);
            c.due("buffered() after a parse error", p.buffered(), 0);
            c.due("append", p.append(0x20202020, 0x20202020, 0x20202020, 0x20202020, 0x20202020), 20);
            c.refused("load of the blanks", p, p.load(20), 4);
            c.due("errorPosition()", p.errorPosition(), 20);
            // The count cuts words and numbers: the text of the test has 1 more or less byte.
            for (int cut = 1; cut < WHOLE.length(); cut++) {
                TrolleyPlanner one = new TrolleyPlanner();
                Texts.append(one, WHOLE);
                c.refused("load(" + cut + ")", one, one.load(cut), 4);
                c.due("buffered()", one.buffered(), 0);
            }
        });
        e.test("Promise 3", "On success the plan replaces the previous one, nothing can be undone, and no state is saved.", c -> {
            TrolleyPlanner p = changedAndSaved();
            c.answered("load", p, Texts.load(p, WHOLE), 0);
            c.refused("undo()", p, p.undo(), 6);
            c.refused("restore()", p, p.restore(), 6);
            c.answered("stock(0, 0)", p, p.stock(0, 0), 0);
            c.answered("jobCount()", p, p.jobCount(), 0);
            c.refused("jobQuantity(0)", p, p.jobQuantity(0), 1);
            c.notServed(p, 0);
            c.answered("load", p, Texts.load(p, Texts.full()), 20);
            c.answered("carCount(1)", p, p.carCount(1), 5);
            c.refused("undo()", p, p.undo(), 6);
            c.answered("setStock", p, p.setStock(0, 0, 5), 0);
            c.answered("undo() of a change since", p, p.undo(), 0);
            c.answered("load of the same text", p, Texts.load(p, Texts.full()), 20);
            c.refused("undo()", p, p.undo(), 6);
        });
        e.test("Promise 3", "On a parse error the previous plan stays.", c -> {
            for (String text : new String[] {"", "x", WHOLE + ";", "kitchen 5", Texts.full() + ";kitchen 5"}) {
                TrolleyPlanner p = changedAndSaved();
                c.refused("load of " + text, p, Texts.load(p, text), 4);
                c.same("load of " + text, Whole.planOf(p), Whole.planOf(changedAndSaved()));
            }
            TrolleyPlanner p = changedAndSaved();
            c.refused("load", p, Texts.load(p, Texts.full() + ";kitchen 5"), 4);
            c.answered("jobQuantity(0)", p, p.jobQuantity(0), 7);
            c.answered("trolleyCount()", p, p.trolleyCount(), 1);
            c.answered("stock(0, 0)", p, p.stock(0, 0), 30);
            c.answered("undo()", p, p.undo(), 1);
            c.answered("jobQuantity(0)", p, p.jobQuantity(0), 6);
            c.answered("undo()", p, p.undo(), 0);
            c.answered("jobQuantity(0)", p, p.jobQuantity(0), 5);
            c.answered("restore()", p, p.restore(), 1);
            c.answered("jobQuantity(0)", p, p.jobQuantity(0), 6);
            TrolleyPlanner none = new TrolleyPlanner();
            c.refused("load without a plan", none, Texts.load(none, "x"), 4);
            c.refused("jobCount() still without a plan", none, none.jobCount(), 1);
        });
        e.test("Promise 3", "- `count`: number of bytes to parse", c -> {
            TrolleyPlanner p = new TrolleyPlanner();
            c.refused("load(0) of nothing", p, p.load(0), 4);
            c.due("parseError()", p.parseError(), 1);
            c.due("errorPosition()", p.errorPosition(), 0);
            p.append(0, 0, 0, 0, 0);
            c.refused("load(0) of 20 bytes", p, p.load(0), 4);
            c.due("errorPosition()", p.errorPosition(), 0);
            c.due("buffered()", p.buffered(), 0);
            String text = WHOLE + " ".repeat(900 - WHOLE.length());
            c.answered("load(900)", p, Texts.load(p, text), 0);
            Texts.append(p, text);
            c.answered("load(899)", p, p.load(899), 0);
        });
        e.test("Promise 3", "Returns the number of jobs; FAILED on an error: 2 if count is negative or greater", c -> {
            TrolleyPlanner p = new TrolleyPlanner();
            c.answered("load without jobs", p, Texts.load(p, WHOLE), 0);
            c.answered("load with one job", p, Texts.load(p, WHOLE + ";job 0 0 0 a 1"), 1);
            c.answered("load with twenty jobs", p, Texts.load(p, TWENTY_JOBS), 20);
            for (int bytes : new int[] {0, 20, 900}) {
                for (int count : new int[] {-1, bytes + 1, 901, 1000, Integer.MIN_VALUE, Integer.MAX_VALUE, -bytes - 1}) {
                    c.refusedAndUnchanged("load(" + count + ") of " + bytes + " bytes", () -> {
                        TrolleyPlanner one = changedAndSaved();
                        Texts.load(one, "x");
                        Texts.append(one, " ".repeat(bytes));
                        return one;
                    }, one -> one.load(count), Checks.FAILED, 2);
                }
            }
            c.refused("load of a wrong text", p, Texts.load(p, "x"), 4);
        });
    }

    // ---- promises 4 to 6

    private static void parseErrors(Edges e) {
        e.test("Promise 4", "Returns the parse error code of the latest call of load that did not fail with error 2.", c -> {
            TrolleyPlanner p = new TrolleyPlanner();
            Texts.load(p, TRAINS + ";train 0");
            c.due("parseError()", p.parseError(), 3);
            p.load(-1);
            p.load(1);
            c.due("parseError() after error 2", p.parseError(), 3);
            Texts.load(p, "x");
            c.due("parseError()", p.parseError(), 1);
            Texts.load(p, WHOLE);
            c.due("parseError() after success", p.parseError(), 0);
            p.load(1);
            c.due("parseError() after error 2", p.parseError(), 0);
        });
        e.test("Promise 4", "Sets no error code.", c -> setsNone(c, p -> p.parseError()));
        e.test("Promise 4", "Returns the code 1 to 5; 0 if that call succeeded or if there was none.", c -> {
            TrolleyPlanner p = new TrolleyPlanner();
            c.due("parseError() at first", p.parseError(), 0);
            p.load(1);
            c.due("parseError() after error 2 alone", p.parseError(), 0);
            String[] texts = {WHOLE, "x", "kitchen 100", TRAINS + ";train 1", THREE_KITCHENS + ";kitchen 1", "kitchen 1"};
            for (int code = 0; code < texts.length; code++) {
                Texts.load(p, texts[code]);
                c.due("parseError()", p.parseError(), code);
            }
        });
        e.test("Promise 5", "Returns the position of the parse error of that call of load.", c -> {
            TrolleyPlanner p = new TrolleyPlanner();
            Texts.load(p, "kitchen 100");
            c.due("errorPosition()", p.errorPosition(), 8);
            p.load(-1);
            p.load(21);
            c.due("errorPosition() after error 2", p.errorPosition(), 8);
            Texts.load(p, "x");
            c.due("errorPosition()", p.errorPosition(), 0);
            Texts.load(p, " ".repeat(900));
            c.due("errorPosition()", p.errorPosition(), 900);
        });
        e.test("Promise 5", "Sets no error code.", c -> setsNone(c, p -> p.errorPosition()));
        e.test("Promise 5", "Returns the position; -1 if parseError() is 0.", c -> {
            TrolleyPlanner p = new TrolleyPlanner();
            c.due("errorPosition() at first", p.errorPosition(), -1);
            p.load(1);
            c.due("errorPosition() after error 2 alone", p.errorPosition(), -1);
            Texts.load(p, "x");
            c.due("errorPosition()", p.errorPosition(), 0);
            Texts.load(p, WHOLE);
            c.due("errorPosition() after success", p.errorPosition(), -1);
        });
        e.test("Promise 6", "Returns the number of bytes in the input buffer.", c -> {
            TrolleyPlanner p = new TrolleyPlanner();
            p.append(0, 0, 0, 0, 0);
            c.due("buffered()", p.buffered(), 20);
            p.load(21);
            c.due("buffered() after error 2", p.buffered(), 20);
            p.append(0, 0, 0, 0, 0);
            c.due("buffered()", p.buffered(), 40);
            p.load(0);
            c.due("buffered() after a parse error", p.buffered(), 0);
        });
        e.test("Promise 6", "Sets no error code.", c -> setsNone(c, p -> p.buffered()));
        e.test("Promise 6", "Returns 0 to 900.", c -> {
            TrolleyPlanner p = new TrolleyPlanner();
            c.due("buffered()", p.buffered(), 0);
            for (int i = 0; i < 45; i++) {
                p.append(0, 0, 0, 0, 0);
            }
            c.due("buffered()", p.buffered(), 900);
            p.append(0, 0, 0, 0, 0);
            c.due("buffered()", p.buffered(), 900);
            p.load(900);
            c.due("buffered()", p.buffered(), 0);
        });
    }

    private static void setsNone(Checks c, ToIntFunction<TrolleyPlanner> call) {
        TrolleyPlanner p = new TrolleyPlanner();
        call.applyAsInt(p);
        c.due("error() at first", p.error(), 0);
        p.load(1);
        call.applyAsInt(p);
        c.due("error() after load(1)", p.error(), 2);
        Texts.load(p, "x");
        call.applyAsInt(p);
        c.due("error() after a parse error", p.error(), 4);
        Texts.load(p, WHOLE);
        call.applyAsInt(p);
        c.due("error() after a success", p.error(), 0);
    }

    private InputEdges() {
    }
}
