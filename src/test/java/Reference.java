import java.util.ArrayDeque;
import java.util.ArrayList;
import java.util.Arrays;
import java.util.Deque;
import java.util.HashMap;
import java.util.HashSet;
import java.util.List;
import java.util.Map;
import java.util.NoSuchElementException;
import java.util.Set;

/**
 * The document's words once more, as slow and direct as can be: time goes on unit by unit, best sets are found by trying
 * every order. It has the methods of TrolleyPlanner, so that the same calls can be put to both.
 */
final class Reference {
    static final int FAILED = Integer.MIN_VALUE;
    static final long FAILED_LONG = Long.MIN_VALUE;

    record Car(int door, int first, int second) {
    }

    record Trolley(int kitchen, int capacity, int speed, int load, int unload) {
    }

    record Job(int trolley, int train, int car, int meal, int quantity) {
    }

    static final class Plan {
        final int[] arrival = {-1, -1};
        final List<List<Car>> cars = List.of(new ArrayList<>(), new ArrayList<>());
        final List<String> meals = new ArrayList<>();
        final List<int[]> rates = new ArrayList<>();
        final List<Integer> kitchens = new ArrayList<>();
        final List<Trolley> trolleys = new ArrayList<>();
        Changeable start = new Changeable();
    }

    static final class Changeable {
        int[] departure = new int[2];
        Map<List<Integer>, Integer> stock = new HashMap<>();
        List<Job> jobs = new ArrayList<>();

        Changeable copy() {
            Changeable c = new Changeable();
            c.departure = departure.clone();
            c.stock = new HashMap<>(stock);
            c.jobs = new ArrayList<>(jobs);
            return c;
        }

        int stockOf(int kitchen, int meal) {
            return stock.getOrDefault(List.of(kitchen, meal), 0);
        }
    }

    static final class Fault extends RuntimeException {
        private static final long serialVersionUID = 1L;
        final int code;
        final int position;

        Fault(int code, int position) {
            this.code = code;
            this.position = position;
        }
    }

    /** What a simulation tells. */
    static final class Told {
        int[] start;
        int[] loaded;
        int[] reach;
        int[] begin;
        int[] unloaded;
        int[] finish;
        int[][] doing;
        int[][] aboard;
        Map<List<Integer>, Integer> stock;
        int total;
        int[][] busy = new int[2][5];
    }

    private final StringBuilder buffer = new StringBuilder();
    private Plan plan;
    private Changeable now;
    private Changeable kept;
    private Told told;
    private final Deque<Changeable> past = new ArrayDeque<>();
    private int parseCode;
    private int parsePosition = -1;
    private int code;

    // ---- input

    public int append(int a, int b, int c, int d, int e) {
        if (buffer.length() > 880) {
            return FAILED;
        }
        for (int word : new int[] {a, b, c, d, e}) {
            for (int k = 3; k >= 0; k--) {
                buffer.append((char) (word >> (8 * k) & 255));
            }
        }
        return buffer.length();
    }

    public int load(int count) {
        if (count < 0 || count > buffer.length()) {
            return fail(2);
        }
        String text = buffer.substring(0, count);
        buffer.setLength(0);
        parseCode = 0;
        parsePosition = -1;
        try {
            plan = new ReferenceParser(text).parse();
        } catch (Fault fault) {
            parseCode = fault.code;
            parsePosition = fault.position;
            return fail(4);
        }
        now = plan.start;
        kept = null;
        past.clear();
        told = simulate(now);
        return ok(now.jobs.size());
    }

    public int parseError() {
        return parseCode;
    }

    public int errorPosition() {
        return parsePosition;
    }

    public int buffered() {
        return buffer.length();
    }

    // ---- the plan

    public int carCount(int train) {
        return train(train) ? ok(plan.cars.get(train).size()) : fail(1);
    }

    public int mealCount() {
        return plan != null ? ok(plan.meals.size()) : fail(1);
    }

    public int trolleyCount() {
        return plan != null ? ok(plan.trolleys.size()) : fail(1);
    }

    public int jobCount() {
        return plan != null ? ok(now.jobs.size()) : fail(1);
    }

    public int departure(int train) {
        return train(train) ? ok(now.departure[train]) : fail(1);
    }

    public int stock(int kitchen, int meal) {
        return kitchen(kitchen) && meal(meal) ? ok(now.stockOf(kitchen, meal)) : fail(1);
    }

    public int demand(int train, int car, int meal) {
        return car(train, car) && meal(meal) ? ok(want(train, car, meal)) : fail(1);
    }

    public int jobTrolley(int job) {
        return job(job) ? ok(now.jobs.get(job).trolley) : fail(1);
    }

    public int jobQuantity(int job) {
        return job(job) ? ok(now.jobs.get(job).quantity) : fail(1);
    }

    // ---- the simulation

    public int startTime(int job) {
        return job(job) ? ok(told.start[job]) : fail(1);
    }

    public int loaded(int job) {
        return job(job) ? ok(told.loaded[job]) : fail(1);
    }

    public int unloaded(int job) {
        return job(job) ? ok(told.unloaded[job]) : fail(1);
    }

    public int unloadTime(int job) {
        return !job(job) ? fail(1) : told.unloaded[job] == 0 ? fail(6) : ok(told.begin[job]);
    }

    public int finishTime(int job) {
        return job(job) ? ok(told.finish[job]) : fail(1);
    }

    public int delivered(int train, int car, int meal) {
        return car(train, car) && meal(meal) ? ok(brought(train, car, meal)) : fail(1);
    }

    public int deliveredTotal() {
        return plan != null ? ok(told.total) : fail(1);
    }

    public int leftBehind(int trolley) {
        if (!trolley(trolley)) {
            return fail(1);
        }
        int sum = 0;
        for (int j = 0; j < now.jobs.size(); j++) {
            if (now.jobs.get(j).trolley == trolley) {
                sum += told.loaded[j] - told.unloaded[j];
            }
        }
        return ok(sum);
    }

    public int finalStock(int kitchen, int meal) {
        return kitchen(kitchen) && meal(meal) ? ok(told.stock.getOrDefault(List.of(kitchen, meal), 0)) : fail(1);
    }

    public int shortage(int train, int car, int meal) {
        if (!car(train, car) || !meal(meal)) {
            return fail(1);
        }
        int lack = want(train, car, meal) - brought(train, car, meal);
        return ok(lack < 0 ? 0 : lack);
    }

    public int longestWait(int trolley) {
        if (!trolley(trolley)) {
            return fail(1);
        }
        int longest = 0;
        for (int j = 0; j < now.jobs.size(); j++) {
            if (now.jobs.get(j).trolley == trolley && told.unloaded[j] > 0) {
                longest = Math.max(longest, told.begin[j] - told.reach[j]);
            }
        }
        return ok(longest);
    }

    public int doorBusy(int train, int car) {
        return car(train, car) ? ok(told.busy[train][car]) : fail(1);
    }

    public int stateAt(int trolley, int time) {
        return !trolley(trolley) ? fail(1) : time < 0 || time > 9999 ? fail(2) : ok(told.doing[trolley][time]);
    }

    public int mealsOn(int trolley, int time) {
        return !trolley(trolley) ? fail(1) : time < 0 || time > 9999 ? fail(2) : ok(told.aboard[trolley][time]);
    }

    // ---- sharing out

    public int share(int train, int car, int meal) {
        return car(train, car) && meal(meal) ? ok(shares(List.of(train), meal).get(List.of(train, car))) : fail(1);
    }

    public int carried(int train, int meal) {
        if (!train(train) || !meal(meal)) {
            return fail(1);
        }
        int sum = 0;
        for (Map.Entry<List<Integer>, Integer> share : shares(List.of(train), meal).entrySet()) {
            sum += Math.max(0, share.getValue() - brought(train, share.getKey().get(1), meal));
        }
        return ok(sum);
    }

    public int jointShare(int train, int car, int meal) {
        return car(train, car) && meal(meal) ? ok(shares(List.of(0, 1), meal).get(List.of(train, car))) : fail(1);
    }

    public long coverage(int train, int meal, boolean denominator) {
        if (!train(train) || !meal(meal)) {
            return failLong(1);
        }
        code = 0;
        return cover(train, meal)[denominator ? 1 : 0];
    }

    public long leastCoverage(int train, boolean denominator) {
        if (!train(train)) {
            return failLong(1);
        }
        long[] least = {1, 1};
        for (int meal = 0; meal < plan.meals.size(); meal++) {
            long[] one = cover(train, meal);
            if (one[0] * least[1] < least[0] * one[1]) {
                least = one;
            }
        }
        code = 0;
        return least[denominator ? 1 : 0];
    }

    public int betterServed(int meal) {
        if (!meal(meal)) {
            return fail(1);
        }
        long[] a = cover(0, meal);
        long[] b = cover(1, meal);
        return ok(Arrays.equals(a, b) ? -1 : a[0] * b[1] > b[0] * a[1] ? 0 : 1);
    }

    // ---- best sets of jobs

    public int bestSet(int trolley) {
        return trolley(trolley) ? ok(best(trolley).set) : fail(1);
    }

    public int bestMeals(int trolley) {
        return trolley(trolley) ? ok(best(trolley).meals) : fail(1);
    }

    public int bestOrder(int trolley, int place) {
        if (!trolley(trolley)) {
            return fail(1);
        }
        List<Integer> order = best(trolley).order;
        return place < 0 || place >= order.size() ? fail(6) : ok(order.get(place));
    }

    public int leastSpeed(int trolley) {
        if (!trolley(trolley)) {
            return fail(1);
        }
        for (int speed = 1; speed <= 9; speed++) {
            Search search = new Search(trolley, speed);
            if (search.bestBySet.containsKey((1 << search.own.size()) - 1)) {
                return ok(speed);
            }
        }
        return fail(6);
    }

    // ---- what-if questions

    public int neededDelay(int train) {
        if (!train(train)) {
            return fail(1);
        }
        for (int delay = 0; delay <= 60; delay++) {
            Changeable other = now.copy();
            other.departure[train] += delay;
            Told then = simulate(other);
            boolean left = false;
            for (int j = 0; j < other.jobs.size(); j++) {
                left |= other.jobs.get(j).train == train && then.loaded[j] != then.unloaded[j];
            }
            if (!left) {
                return ok(delay);
            }
        }
        return fail(6);
    }

    public int deliveredWithout(int trolley) {
        if (!trolley(trolley)) {
            return fail(1);
        }
        Changeable other = now.copy();
        other.jobs.removeIf(job -> job.trolley == trolley);
        return ok(simulate(other).total);
    }

    public int worstJob() {
        if (plan == null) {
            return fail(1);
        }
        int most = 0;
        int worst = -1;
        for (int j = 0; j < now.jobs.size(); j++) {
            Changeable other = now.copy();
            other.jobs.remove(j);
            int more = simulate(other).total - told.total;
            if (more > most) {
                most = more;
                worst = j;
            }
        }
        return worst < 0 ? fail(6) : ok(worst);
    }

    public int bestTrolley(int job) {
        if (!job(job)) {
            return fail(1);
        }
        Job old = now.jobs.get(job);
        int[] totals = new int[plan.trolleys.size()];
        Arrays.fill(totals, -1);
        for (int t = 0; t < totals.length; t++) {
            final int trolley = t;
            long busy = now.jobs.stream().filter(j -> j.trolley == trolley).count();
            if (t == old.trolley || busy < 8) {
                Changeable other = now.copy();
                other.jobs.set(job, new Job(t, old.train, old.car, old.meal, old.quantity));
                totals[t] = simulate(other).total;
            }
        }
        int best = 0;
        for (int t = 0; t < totals.length; t++) {
            best = totals[t] > totals[best] ? t : best;
        }
        return ok(best);
    }

    public int bestSwap() {
        if (plan == null) {
            return fail(1);
        }
        int most = 0;
        int best = -1;
        for (int i = 0; i < now.jobs.size(); i++) {
            for (int j = i + 1; j < now.jobs.size(); j++) {
                Changeable other = now.copy();
                other.jobs.set(i, now.jobs.get(j));
                other.jobs.set(j, now.jobs.get(i));
                int more = simulate(other).total - told.total;
                if (more > most) {
                    most = more;
                    best = 100 * i + j;
                }
            }
        }
        return best < 0 ? fail(6) : ok(best);
    }

    // ---- changes

    public int addJob(int trolley, int train, int car, int meal, int quantity) {
        if (!trolley(trolley) || !car(train, car) || !meal(meal)) {
            return fail(1);
        }
        if (quantity < 1 || quantity > 99) {
            return fail(2);
        }
        if (now.jobs.size() == 20 || now.jobs.stream().filter(j -> j.trolley == trolley).count() == 8) {
            return fail(3);
        }
        remember();
        now.jobs.add(new Job(trolley, train, car, meal, quantity));
        return changed(now.jobs.size());
    }

    public int removeJob(int job) {
        if (!job(job)) {
            return fail(1);
        }
        remember();
        now.jobs.remove(job);
        return changed(now.jobs.size());
    }

    public int moveJob(int job, int to) {
        if (!job(job) || !job(to)) {
            return fail(1);
        }
        remember();
        now.jobs.add(to, now.jobs.remove(job));
        return changed(0);
    }

    public int setDeparture(int train, int time) {
        if (!train(train)) {
            return fail(1);
        }
        if (time < plan.arrival[train] || time > 999) {
            return fail(2);
        }
        remember();
        int old = now.departure[train];
        now.departure[train] = time;
        return changed(old);
    }

    public int setStock(int kitchen, int meal, int quantity) {
        if (!kitchen(kitchen) || !meal(meal)) {
            return fail(1);
        }
        if (quantity < 0 || quantity > 999) {
            return fail(2);
        }
        remember();
        Integer old = now.stock.put(List.of(kitchen, meal), quantity);
        return changed(old == null ? 0 : old);
    }

    public int setQuantity(int job, int quantity) {
        if (!job(job)) {
            return fail(1);
        }
        if (quantity < 1 || quantity > 99) {
            return fail(2);
        }
        remember();
        Job old = now.jobs.get(job);
        now.jobs.set(job, new Job(old.trolley, old.train, old.car, old.meal, quantity));
        return changed(old.quantity);
    }

    public int applyBest(int trolley) {
        if (!trolley(trolley)) {
            return fail(1);
        }
        List<Integer> order = best(trolley).order;
        remember();
        List<Job> after = new ArrayList<>();
        int k = 0;
        int removed = 0;
        for (Job job : now.jobs) {
            if (job.trolley != trolley) {
                after.add(job);
            } else if (k < order.size()) {
                after.add(now.jobs.get(order.get(k++)));
            } else {
                removed++;
            }
        }
        now.jobs = after;
        return changed(removed);
    }

    public int undo() {
        if (plan == null) {
            return fail(1);
        }
        if (past.isEmpty()) {
            return fail(6);
        }
        now = past.removeLast();
        return changed(past.size());
    }

    public int save() {
        if (plan == null) {
            return fail(1);
        }
        kept = now.copy();
        return ok(0);
    }

    public int restore() {
        if (plan == null) {
            return fail(1);
        }
        if (kept == null) {
            return fail(6);
        }
        now = kept.copy();
        past.clear();
        return changed(now.jobs.size());
    }

    public int served(int i) throws NoSuchElementException {
        List<Integer> all = new ArrayList<>();
        for (int j = 0; plan != null && j < now.jobs.size(); j++) {
            if (told.unloaded[j] > 0) {
                all.add(j);
            }
        }
        if (i < 0 || i >= all.size()) {
            throw new NoSuchElementException();
        }
        return all.get(i);
    }

    public int error() {
        return code;
    }

    // ---- what they share

    private int ok(int value) {
        code = 0;
        return value;
    }

    private int fail(int errorCode) {
        code = errorCode;
        return FAILED;
    }

    private long failLong(int errorCode) {
        code = errorCode;
        return FAILED_LONG;
    }

    private int changed(int value) {
        told = simulate(now);
        return ok(value);
    }

    private void remember() {
        past.addLast(now.copy());
        if (past.size() > 10) {
            past.removeFirst();
        }
    }

    private boolean train(int train) {
        return plan != null && (train == 0 || train == 1);
    }

    private boolean car(int train, int car) {
        return train(train) && car >= 0 && car < plan.cars.get(train).size();
    }

    private boolean meal(int meal) {
        return plan != null && meal >= 0 && meal < plan.meals.size();
    }

    private boolean kitchen(int kitchen) {
        return plan != null && kitchen >= 0 && kitchen < plan.kitchens.size();
    }

    private boolean trolley(int trolley) {
        return plan != null && trolley >= 0 && trolley < plan.trolleys.size();
    }

    private boolean job(int job) {
        return plan != null && job >= 0 && job < now.jobs.size();
    }

    private int want(int train, int car, int meal) {
        Car c = plan.cars.get(train).get(car);
        int tenths = c.first * plan.rates.get(meal)[0] + c.second * plan.rates.get(meal)[1];
        return tenths / 10 + (tenths % 10 > 0 ? 1 : 0);
    }

    private int brought(int train, int car, int meal) {
        int sum = 0;
        for (int j = 0; j < now.jobs.size(); j++) {
            Job job = now.jobs.get(j);
            if (job.train == train && job.car == car && job.meal == meal) {
                sum += told.unloaded[j];
            }
        }
        return sum;
    }

    private long[] cover(int train, int meal) {
        long given = 0;
        long wanted = 0;
        for (int car = 0; car < plan.cars.get(train).size(); car++) {
            given += brought(train, car, meal);
            wanted += want(train, car, meal);
        }
        if (given >= wanted) {
            return new long[] {1, 1};
        }
        long divisor = wanted;
        while (given % divisor != 0 || wanted % divisor != 0) {
            divisor--;
        }
        return new long[] {given / divisor, wanted / divisor};
    }

    private Map<List<Integer>, Integer> shares(List<Integer> trains, int meal) {
        List<List<Integer>> cars = new ArrayList<>();
        int given = 0;
        int wanted = 0;
        for (int train : trains) {
            for (int car = 0; car < plan.cars.get(train).size(); car++) {
                cars.add(List.of(train, car));
                given += brought(train, car, meal);
                wanted += want(train, car, meal);
            }
        }
        final int meals = given;
        final int all = wanted;
        Map<List<Integer>, Integer> shares = new HashMap<>();
        if (meals >= all) {
            cars.forEach(car -> shares.put(car, want(car.get(0), car.get(1), meal)));
            return shares;
        }
        int left = meals;
        for (List<Integer> car : cars) {
            int part = meals * want(car.get(0), car.get(1), meal) / all;
            shares.put(car, part);
            left -= part;
        }
        List<List<Integer>> ranked = new ArrayList<>(cars);
        ranked.sort((a, b) -> Integer.compare(meals * want(b.get(0), b.get(1), meal) % all,
            meals * want(a.get(0), a.get(1), meal) % all));
        for (List<Integer> car : ranked.subList(0, left)) {
            shares.merge(car, 1, Integer::sum);
        }
        return shares;
    }

    private static int steps(int from, int to, int speed) {
        int steps = 0;
        for (int way = Math.abs(from - to); way > 0; way -= speed) {
            steps++;
        }
        return steps;
    }

    // ---- the simulation, unit by unit

    private Told simulate(Changeable s) {
        int trolleys = plan.trolleys.size();
        int n = s.jobs.size();
        Told t = new Told();
        t.start = new int[n];
        t.loaded = new int[n];
        t.reach = new int[n];
        t.begin = new int[n];
        t.unloaded = new int[n];
        t.finish = new int[n];
        t.doing = new int[trolleys][10000];
        t.aboard = new int[trolleys][10000];
        t.stock = new HashMap<>(s.stock);
        List<Deque<Integer>> todo = new ArrayList<>();
        for (int k = 0; k < trolleys; k++) {
            todo.add(new ArrayDeque<>());
        }
        for (int j = 0; j < n; j++) {
            todo.get(s.jobs.get(j).trolley).add(j);
        }
        int[] startAt = new int[trolleys];
        int[] reachAt = new int[trolleys];
        Arrays.fill(reachAt, -1);
        int[][] free = new int[2][5];
        Map<Integer, List<int[]>> returning = new HashMap<>();
        for (int time = 0; time < 10000; time++) {
            for (int[] back : returning.getOrDefault(time, List.of())) {
                t.stock.merge(List.of(back[0], back[1]), back[2], Integer::sum);
            }
            for (int k = 0; k < trolleys; k++) {
                while (startAt[k] == time || reachAt[k] == time) {
                    if (startAt[k] == time) {
                        start(s, t, k, todo.get(k), startAt, reachAt);
                    } else {
                        reach(s, t, k, todo.get(k), startAt, reachAt, free, returning);
                    }
                }
            }
        }
        return t;
    }

    private void start(Changeable s, Told t, int k, Deque<Integer> todo, int[] startAt, int[] reachAt) {
        int time = startAt[k];
        if (todo.isEmpty()) {
            startAt[k] = -1;
            return;
        }
        int j = todo.peekFirst();
        Job job = s.jobs.get(j);
        Trolley trolley = plan.trolleys.get(k);
        List<Integer> place = List.of(trolley.kitchen, job.meal);
        int meals = Math.min(Math.min(job.quantity, trolley.capacity), t.stock.getOrDefault(place, 0));
        t.start[j] = time;
        t.loaded[j] = meals;
        if (meals == 0) {
            t.finish[j] = time;
            todo.removeFirst();
            return;
        }
        t.stock.merge(place, -meals, Integer::sum);
        for (int m = 0; m < meals; m++) {
            for (int u = 0; u < trolley.load; u++) {
                put(t, k, time++, 1, m);
            }
        }
        int way = steps(plan.kitchens.get(trolley.kitchen), plan.cars.get(job.train).get(job.car).door, trolley.speed);
        for (int u = 0; u < way; u++) {
            put(t, k, time++, 2, meals);
        }
        t.reach[j] = time;
        startAt[k] = -1;
        reachAt[k] = time;
    }

    private void reach(Changeable s, Told t, int k, Deque<Integer> todo, int[] startAt, int[] reachAt, int[][] free,
            Map<Integer, List<int[]>> returning) {
        int time = reachAt[k];
        reachAt[k] = -1;
        int j = todo.removeFirst();
        Job job = s.jobs.get(j);
        Trolley trolley = plan.trolleys.get(k);
        int way = steps(plan.kitchens.get(trolley.kitchen), plan.cars.get(job.train).get(job.car).door, trolley.speed);
        int begin = Math.max(time, Math.max(plan.arrival[job.train], free[job.train][job.car]));
        int meals = 0;
        while (meals < t.loaded[j] && begin + (meals + 1) * trolley.unload <= s.departure[job.train]) {
            meals++;
        }
        int left = t.loaded[j] - meals;
        t.unloaded[j] = meals;
        t.total += meals;
        if (meals > 0) {
            t.begin[j] = begin;
            while (time < begin) {
                put(t, k, time++, 3, t.loaded[j]);
            }
            for (int m = 0; m < meals; m++) {
                for (int u = 0; u < trolley.unload; u++) {
                    put(t, k, time++, 4, t.loaded[j] - m);
                }
            }
            t.busy[job.train][job.car] += time - begin;
            free[job.train][job.car] = time;
        }
        for (int u = 0; u < way; u++) {
            put(t, k, time++, 5, left);
        }
        t.finish[j] = time;
        startAt[k] = time;
        if (time == t.reach[j]) {
            t.stock.merge(List.of(trolley.kitchen, job.meal), left, Integer::sum);
        } else {
            returning.computeIfAbsent(time, x -> new ArrayList<>()).add(new int[] {trolley.kitchen, job.meal, left});
        }
    }

    private static void put(Told t, int trolley, int time, int doing, int meals) {
        t.doing[trolley][time] = doing;
        t.aboard[trolley][time] = meals;
    }

    // ---- best sets: every order of every set

    private record Best(int set, int meals, List<Integer> order) {
    }

    private Best best(int trolley) {
        Search search = new Search(trolley, plan.trolleys.get(trolley).speed);
        Best best = new Best(0, 0, List.of());
        for (int set = 1; set < 1 << search.own.size(); set++) {
            if (search.bestBySet.containsKey(set)) {
                int meals = 0;
                for (int k = 0; k < search.own.size(); k++) {
                    if ((set & 1 << k) != 0) {
                        int quantity = now.jobs.get(search.own.get(k)).quantity;
                        meals += Math.min(quantity, plan.trolleys.get(trolley).capacity);
                    }
                }
                if (meals > best.meals) {
                    best = new Best(set, meals, search.bestBySet.get(set));
                }
            }
        }
        return best;
    }

    private final class Search {
        final List<Integer> own = new ArrayList<>();
        /** For each set that can be done the first order found, which is the smallest one. */
        final Map<Integer, List<Integer>> bestBySet = new HashMap<>();
        private final Trolley trolley;
        private final int speed;

        Search(int number, int speed) {
            this.trolley = plan.trolleys.get(number);
            this.speed = speed;
            for (int j = 0; j < now.jobs.size(); j++) {
                if (now.jobs.get(j).trolley == number) {
                    own.add(j);
                }
            }
            extend(0, 0, new ArrayList<>());
        }

        private void extend(int set, int time, List<Integer> order) {
            bestBySet.putIfAbsent(set, new ArrayList<>(order));
            for (int k = 0; k < own.size(); k++) {
                Job job = now.jobs.get(own.get(k));
                int meals = Math.min(job.quantity, trolley.capacity);
                int way = steps(plan.kitchens.get(trolley.kitchen), plan.cars.get(job.train).get(job.car).door, speed);
                int begin = Math.max(time + meals * trolley.load + way, plan.arrival[job.train]);
                int end = begin + meals * trolley.unload;
                if ((set & 1 << k) == 0 && end <= now.departure[job.train]) {
                    order.add(own.get(k));
                    extend(set | 1 << k, end + way, order);
                    order.remove(order.size() - 1);
                }
            }
        }
    }

    // ---- the text: split into tokens first, then line by line

    private static final class ReferenceParser {
        private static final Set<String> KEYWORDS = new HashSet<>(
            Arrays.asList("train", "car", "meal", "kitchen", "stock", "trolley", "job", "from", "to"));

        private record Token(String text, int at) {
        }

        private final List<Token> tokens = new ArrayList<>();
        private final Plan plan = new Plan();
        private int here = -1;

        ReferenceParser(String text) {
            java.util.regex.Matcher m = java.util.regex.Pattern.compile("[a-z]+|[0-9]+|[^ ]", java.util.regex.Pattern.DOTALL)
                .matcher(text);
            while (m.find()) {
                tokens.add(new Token(m.group(), m.start()));
            }
            tokens.add(new Token("", text.length()));
        }

        private Fault fault(int code) {
            return new Fault(code, tokens.get(here).at);
        }

        private String next() {
            here++;
            String token = tokens.get(here).text;
            if (!token.matches("[a-z]{1,8}|[0-9]{1,3}|;|")) {
                throw fault(1);
            }
            return token;
        }

        private int number(int low, int high) {
            String token = next();
            if (!token.matches("[0-9]+")) {
                throw fault(1);
            }
            int value = Integer.parseInt(token);
            if (value < low || value > high) {
                throw fault(2);
            }
            return value;
        }

        private void literal(String wanted) {
            if (!next().equals(wanted)) {
                throw fault(1);
            }
        }

        private String name() {
            String token = next();
            if (!token.matches("[a-z]+") || KEYWORDS.contains(token)) {
                throw fault(1);
            }
            return token;
        }

        private int meal() {
            int meal = plan.meals.indexOf(name());
            if (meal < 0) {
                throw fault(2);
            }
            return meal;
        }

        private int train() {
            int train = number(0, 1);
            if (plan.arrival[train] < 0) {
                throw fault(2);
            }
            return train;
        }

        private void room(int used, int most) {
            if (used >= most) {
                throw fault(4);
            }
        }

        Plan parse() {
            String separator;
            do {
                line(next());
                separator = next();
            } while (separator.equals(";"));
            if (!separator.isEmpty()) {
                throw fault(1);
            }
            boolean whole = plan.arrival[0] >= 0 && plan.arrival[1] >= 0 && !plan.cars.get(0).isEmpty()
                && !plan.cars.get(1).isEmpty() && !plan.meals.isEmpty() && !plan.trolleys.isEmpty();
            if (!whole) {
                throw fault(5);
            }
            return plan;
        }

        private void line(String word) {
            Changeable s = plan.start;
            switch (word) {
                case "train" -> {
                    int train = number(0, 1);
                    if (plan.arrival[train] >= 0) {
                        throw fault(3);
                    }
                    literal("from");
                    int arrival = number(0, 900);
                    literal("to");
                    s.departure[train] = number(arrival, 999);
                    plan.arrival[train] = arrival;
                }
                case "car" -> {
                    int train = train();
                    room(plan.cars.get(train).size(), 5);
                    plan.cars.get(train).add(new Car(number(0, 99), number(0, 99), number(0, 99)));
                }
                case "meal" -> {
                    room(plan.meals.size(), 4);
                    String name = name();
                    if (plan.meals.contains(name)) {
                        throw fault(3);
                    }
                    plan.rates.add(new int[] {number(0, 20), number(0, 20)});
                    plan.meals.add(name);
                }
                case "kitchen" -> {
                    room(plan.kitchens.size(), 3);
                    plan.kitchens.add(number(0, 99));
                }
                case "stock" -> {
                    int kitchen = number(0, plan.kitchens.size() - 1);
                    int meal = meal();
                    if (s.stock.containsKey(List.of(kitchen, meal))) {
                        throw fault(3);
                    }
                    s.stock.put(List.of(kitchen, meal), number(0, 999));
                }
                case "trolley" -> {
                    room(plan.trolleys.size(), 5);
                    plan.trolleys.add(new Trolley(number(0, plan.kitchens.size() - 1), number(1, 99), number(1, 9),
                        number(1, 5), number(1, 5)));
                }
                case "job" -> {
                    room(s.jobs.size(), 20);
                    int trolley = number(0, plan.trolleys.size() - 1);
                    room((int) s.jobs.stream().filter(j -> j.trolley == trolley).count(), 8);
                    int train = train();
                    s.jobs.add(new Job(trolley, train, number(0, plan.cars.get(train).size() - 1), meal(), number(1, 99)));
                }
                default -> throw fault(1);
            }
        }
    }
}
