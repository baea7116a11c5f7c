/** Texts for a planner, and the way of a text into it. */
final class Texts {
    /** Two trains with a car each, a meal, a kitchen at 0 and a trolley; the doors stand at 10. */
    static final String SMALL = "train 0 from 10 to 60;train 1 from 20 to 80;car 0 10 20 0;car 1 10 0 30;"
        + "meal soup 10 5;kitchen 0;stock 0 soup 40;trolley 0 20 1 1 1";

    private Texts() {
    }

    static int[] words(String text) {
        int[] words = new int[(text.length() + 19) / 20 * 5];
        for (int i = 0; i < words.length * 4; i++) {
            int sign = i < text.length() ? text.charAt(i) : ' ';
            words[i / 4] = words[i / 4] << 8 | sign;
        }
        return words;
    }

    static void append(TrolleyPlanner planner, String text) {
        int[] w = words(text);
        for (int i = 0; i < w.length; i += 5) {
            planner.append(w[i], w[i + 1], w[i + 2], w[i + 3], w[i + 4]);
        }
    }

    static int load(TrolleyPlanner planner, String text) {
        append(planner, text);
        return planner.load(text.length());
    }

    static TrolleyPlanner plan(String text) {
        TrolleyPlanner planner = new TrolleyPlanner();
        if (load(planner, text) < 0) {
            throw new IllegalStateException(planner.parseError() + " at " + planner.errorPosition() + " of " + text);
        }
        return planner;
    }
}
