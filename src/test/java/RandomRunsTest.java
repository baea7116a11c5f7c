import java.lang.reflect.InvocationTargetException;
import java.lang.reflect.Method;
import java.lang.reflect.Modifier;
import java.util.ArrayList;
import java.util.Arrays;
import java.util.Comparator;
import java.util.List;
import java.util.Random;

/** Puts random calls on random plans, and on broken texts, to the program and to the slow reference. */
public final class RandomRunsTest {
    private static final int PLANS = 300;
    /** An object has 512 calls; behind them the document leaves all answers free. */
    private static final int CALLS = 512;
    /** A call and the question for its error code; a text of 900 bytes, its load and three questions. */
    private static final int CALLS_OF_A_ROUND = 2 + 900 / 20 + 4;
    private static final int FULL_PLANS = 12;
    private static final int BROKEN_TEXTS = 60000;

    private final Random random = new Random(20261119);
    private final List<Method> methods = new ArrayList<>();
    private int wrong;
    private int made;

    public static void main(String[] args) throws Exception {
        RandomRunsTest test = new RandomRunsTest();
        test.findMethods();
        for (int plan = 0; plan < PLANS; plan++) {
            test.callAll(plan, test.randomText());
        }
        for (int plan = 0; plan < FULL_PLANS; plan++) {
            test.callAll(PLANS + plan, test.fullText());
        }
        test.breakTexts();
        System.out.println("RandomRunsTest: " + test.wrong + " wrong");
        if (test.wrong != 0) {
            System.exit(1);
        }
    }

    private void findMethods() {
        for (Method method : TrolleyPlanner.class.getDeclaredMethods()) {
            if (Modifier.isPublic(method.getModifiers()) && !method.getName().equals("append")
                && !method.getName().equals("load")) {
                methods.add(method);
            }
        }
        methods.sort(Comparator.comparing(Method::getName));
    }

    private void callAll(int plan, String text) throws Exception {
        TrolleyPlanner planner = new TrolleyPlanner();
        Reference reference = new Reference();
        made = 0;
        loadBoth(planner, reference, text);
        while (made + CALLS_OF_A_ROUND <= CALLS) {
            Method method = methods.get(random.nextInt(methods.size()));
            Object[] args = arguments(method);
            String got = outcome(method, planner, args);
            String want = outcome(Reference.class.getMethod(method.getName(), method.getParameterTypes()), reference, args);
            int error = planner.error();
            made += 2;
            if (!got.equals(want) || error != reference.error()) {
                report("plan " + plan + " call " + made + " " + method.getName() + Arrays.toString(args) + " " + got + ", due is "
                    + want + ", errors " + error + " and " + reference.error());
                return;
            }
            if (random.nextInt(100) == 0) {
                loadBoth(planner, reference, random.nextInt(3) == 0 ? "car" : randomText());
            }
        }
    }

    private void report(String what) {
        wrong++;
        if (wrong <= 10) {
            System.out.println(what);
        }
    }

    private static String outcome(Method method, Object object, Object[] args) throws Exception {
        try {
            method.setAccessible(true);
            return String.valueOf(method.invoke(object, args));
        } catch (InvocationTargetException e) {
            return e.getCause().getClass().getName();
        }
    }

    private Object[] arguments(Method method) {
        Class<?>[] types = method.getParameterTypes();
        Object[] args = new Object[types.length];
        for (int i = 0; i < types.length; i++) {
            args[i] = types[i] == boolean.class ? (Object) random.nextBoolean() : (Object) number(method.getName(), i);
        }
        return args;
    }

    private int number(String method, int place) {
        if (random.nextInt(40) == 0) {
            int[] odd = {-1, Integer.MIN_VALUE, Integer.MAX_VALUE, 20, 99, 100, 999, 1000, 9999, 10000};
            return odd[random.nextInt(odd.length)];
        }
        boolean time = place == 1 && (method.equals("stateAt") || method.equals("mealsOn") || method.equals("setDeparture"));
        boolean quantity = place == 4 || place == 1 && method.equals("setQuantity") || place == 2 && method.equals("setStock");
        boolean job = method.endsWith("Job") && !method.equals("addJob") || method.startsWith("job")
            || method.endsWith("Time") || method.endsWith("loaded") || method.equals("setQuantity")
            || method.equals("bestTrolley") || method.equals("served");
        return time ? random.nextInt(250) : quantity ? random.nextInt(30) : job ? random.nextInt(random.nextInt(3) == 0 ? 21 : 13) : smallIndex();
    }

    private int smallIndex() {
        return random.nextInt(4) == 0 ? random.nextInt(5) : random.nextInt(2);
    }

    private void loadBoth(TrolleyPlanner planner, Reference reference, String text) {
        int[] w = Texts.words(text);
        for (int i = 0; i < w.length; i += 5) {
            made++;
            int got = planner.append(w[i], w[i + 1], w[i + 2], w[i + 3], w[i + 4]);
            int want = reference.append(w[i], w[i + 1], w[i + 2], w[i + 3], w[i + 4]);
            if (got != want) {
                report("append answered " + got + ", due is " + want);
            }
        }
        int got = planner.load(text.length());
        int want = reference.load(text.length());
        made += 4;
        if (got != want || planner.parseError() != reference.parseError()
            || planner.errorPosition() != reference.errorPosition() || planner.error() != reference.error()) {
            report("load of " + text + " answered " + got + " error " + planner.parseError() + " at "
                + planner.errorPosition() + ", due is " + want + " error " + reference.parseError() + " at "
                + reference.errorPosition());
        }
    }

    // ---- texts

    private int upTo(int most) {
        return random.nextInt(most + 1);
    }

    private String randomText() {
        int spread = random.nextBoolean() ? 3 : 40;
        int trolleys = 1 + upTo(4);
        int kitchens = 1 + upTo(2);
        int meals = 1 + upTo(3);
        int[] cars = {1 + upTo(4), 1 + upTo(4)};
        String[] names = {"soup", "a", "porridge", "fromto"};
        StringBuilder text = new StringBuilder();
        for (int train = 0; train < 2; train++) {
            int arrival = upTo(60);
            text.append("train ").append(train).append(" from ").append(arrival).append(" to ")
                .append(arrival + upTo(random.nextBoolean() ? 40 : 150)).append(';');
            for (int car = 0; car < cars[train]; car++) {
                line(text, "car", train, upTo(spread), upTo(30), upTo(30));
            }
        }
        for (int meal = 0; meal < meals; meal++) {
            line(text, "meal " + names[meal], upTo(random.nextInt(4) == 0 ? 0 : 8), upTo(random.nextInt(4) == 0 ? 0 : 8));
        }
        for (int kitchen = 0; kitchen < kitchens; kitchen++) {
            line(text, "kitchen", upTo(spread));
            for (int meal = 0; meal < meals; meal++) {
                if (random.nextInt(5) > 0) {
                    line(text, "stock " + kitchen + " " + names[meal], upTo(random.nextInt(3) == 0 ? 99 : 25));
                }
            }
        }
        for (int trolley = 0; trolley < trolleys; trolley++) {
            line(text, "trolley", upTo(kitchens - 1), 1 + upTo(25), 1 + upTo(8), 1 + upTo(2), 1 + upTo(2));
        }
        int jobs = upTo(Math.min(20, 4 * trolleys));
        for (int job = 0; job < jobs && text.length() < 870; job++) {
            int train = upTo(1);
            line(text, "job", upTo(trolleys - 1), train, upTo(cars[train] - 1), -1 - upTo(meals - 1), 1 + upTo(12));
            for (int meal = 0; meal < meals; meal++) {
                int at = text.indexOf(" " + (-1 - meal) + " ");
                if (at >= 0) {
                    text.replace(at + 1, at + 3, names[meal]);
                }
            }
        }
        text.setLength(text.length() - 1);
        return text.length() > 900 ? randomText() : text.toString();
    }

    /** As much of everything as a plan can have. */
    private String fullText() {
        int spread = upTo(1) * 5;
        StringBuilder text = new StringBuilder();
        for (int train = 0; train < 2; train++) {
            int arrival = upTo(9);
            text.append("train ").append(train).append(" from ").append(arrival).append(" to ")
                .append(arrival + 20 + upTo(60)).append(';');
            for (int car = 0; car < 5; car++) {
                line(text, "car", train, upTo(spread), upTo(9), upTo(9));
            }
        }
        for (String meal : new String[] {"a", "b", "c", "d"}) {
            line(text, "meal " + meal, upTo(9), upTo(9));
        }
        for (int kitchen = 0; kitchen < 3; kitchen++) {
            line(text, "kitchen", upTo(spread));
            for (String meal : new String[] {"a", "b", "c", "d"}) {
                line(text, "stock " + kitchen + " " + meal, upTo(20));
            }
        }
        for (int trolley = 0; trolley < 5; trolley++) {
            line(text, "trolley", upTo(2), 1 + upTo(8), 1 + upTo(8), 1 + upTo(1), 1 + upTo(1));
        }
        int[] jobs = {0, 1, 0, 1, 0, 1, 4, 0, 1, 4, 0, 1, 4, 0, 1, 4, 0, 1, 0, 1};
        for (int trolley : jobs) {
            line(text, "job " + trolley + " " + upTo(1) + " " + upTo(4) + " " + "abcd".charAt(upTo(3)), 1 + upTo(5));
        }
        text.setLength(text.length() - 1);
        return text.toString();
    }

    private static void line(StringBuilder text, String word, int... numbers) {
        text.append(word);
        for (int number : numbers) {
            text.append(' ').append(number);
        }
        text.append(';');
    }

    private void breakTexts() {
        String[] bits = {"train", "car", "meal", "kitchen", "stock", "trolley", "job", "from", "to", "0", "1", "2", "5", "9",
            "10", "99", "100", "999", "900", "901", "1000", "007", ";", " ", "soup", "a", "abcdefgh", "abcdefghi", "A",
            "\0", "\u00ff", "-1", "car 0 1 2 3;", "meal b 1 1;", "kitchen 1;", "trolley 0 1 1 1 1;", "job 0 0 0 a 1;",
            "stock 0 a 1;", "train 0 from 1 to 2;", "0 ", "\u0080"};
        String text = randomText();
        for (int i = 0; i < BROKEN_TEXTS; i++) {
            if (i % 50 == 0) {
                text = randomText();
            }
            StringBuilder broken = new StringBuilder(text);
            for (int changes = upTo(3); changes >= 0; changes--) {
                int at = upTo(broken.length());
                int end = Math.min(broken.length(), at + upTo(4));
                broken.replace(at, end, random.nextInt(3) == 0 ? "" : bits[random.nextInt(bits.length)]);
            }
            if (random.nextInt(10) == 0) {
                broken.setLength(upTo(broken.length()));
            }
            if (broken.length() > 900) {
                broken.setLength(900);
            }
            loadBoth(new TrolleyPlanner(), new Reference(), broken.toString());
        }
    }
}
