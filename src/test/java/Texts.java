/** Texts for a planner, and the way of a text into it. */
final class Texts {
    /** Two trains with a car each, a meal, a kitchen at 0 and a trolley; the doors stand at 10. */
    static final String SMALL = "train 0 from 10 to 60;train 1 from 20 to 80;car 0 10 20 0;car 1 10 0 30;"
        + "meal soup 10 5;kitchen 0;stock 0 soup 40;trolley 0 20 1 1 1";

    private Texts() {
    }

    /**
     * As much of everything as there may be. Car c of train t has its door at 10 t + c, c first and t second class; meal m has
     * the rates 5 m and 10; kitchen k stands at k, with 100 k + m meals of kind m; trolley t is in kitchen t % 3 and carries
     * 9 - t meals; job j has trolley j % 5, train j % 2, car j / 4, meal j % 4 and j + 1 meals.
     */
    static String full() {
        StringBuilder text = new StringBuilder("train 0 from 0 to 90;train 1 from 9 to 99");
        for (int car = 0; car < 10; car++) {
            add(text, ";car", car / 5, car / 5 * 10 + car % 5, car % 5, car / 5);
        }
        for (int meal = 0; meal < 4; meal++) {
            add(text, ";meal " + "abcd".charAt(meal), 5 * meal, 10);
        }
        for (int kitchen = 0; kitchen < 3; kitchen++) {
            add(text, ";kitchen", kitchen);
            for (int meal = 0; meal < 4; meal++) {
                add(text, ";stock " + kitchen + " " + "abcd".charAt(meal), 100 * kitchen + meal);
            }
        }
        for (int trolley = 0; trolley < 5; trolley++) {
            add(text, ";trolley", trolley % 3, 9 - trolley, 9, 1, 1);
        }
        for (int job = 0; job < 20; job++) {
            add(text, ";job " + job % 5 + " " + job % 2 + " " + job / 4 + " " + "abcd".charAt(job % 4), job + 1);
        }
        return text.toString();
    }

    /** As many jobs of a trolley as there may be, with 1, 2, .. 8 meals. */
    static String eightJobs(int trolley, int train) {
        StringBuilder text = new StringBuilder();
        for (int meals = 1; meals <= 8; meals++) {
            add(text, ";job " + trolley + " " + train + " 0 a", meals);
        }
        return text.toString();
    }

    private static void add(StringBuilder text, String words, int... numbers) {
        text.append(words);
        for (int number : numbers) {
            text.append(' ').append(number);
        }
    }

    static int[] words(String text) {
        int[] words = new int[(text.length() + 19) / 20 * 5];
        for (int i = 0; i < words.length * 4; i++) {
            int sign = i < text.length() ? text.charAt(i) : ' ';
            words[i / 4] = words[i / 4] << 8 | sign;
        }
        return words;
    }

    static void append(TrolleyPlanner planner, String text) {
        int[] w = words(text);
        for (int i = 0; i < w.length; i += 5) {
            planner.append(w[i], w[i + 1], w[i + 2], w[i + 3], w[i + 4]);
        }
    }

    static int load(TrolleyPlanner planner, String text) {
        append(planner, text);
        return planner.load(text.length());
    }

    static TrolleyPlanner plan(String text) {
        TrolleyPlanner planner = new TrolleyPlanner();
        if (load(planner, text) < 0) {
            throw new IllegalStateException(planner.parseError() + " at " + planner.errorPosition() + " of " + text);
        }
        return planner;
    }
}
