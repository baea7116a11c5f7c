import java.util.Arrays;
import java.util.NoSuchElementException;

/** Simulates and plans the catering of two trains at one platform, as shared/DOC.md says. */
public final class TrolleyPlanner {
    public static final int FAILED = -2147483648;
    public static final long FAILED_LONG = -9223372036854775808L;

    private static final int BAD_INDEX = 1;
    private static final int BAD_ARGUMENT = 2;
    private static final int NO_ROOM = 3;
    private static final int BAD_TEXT = 4;
    private static final int NO_RESULT = 6;

    private static final int MAX_BYTES = 900;
    private static final int BYTES_APPENDED = 20;
    private static final int TRAINS = 2;
    private static final int MAX_CARS = 5;
    private static final int MAX_DOORS = TRAINS * MAX_CARS;
    private static final int MAX_MEALS = 4;
    private static final int MAX_KITCHENS = 3;
    private static final int MAX_STOCKS = MAX_KITCHENS * MAX_MEALS;
    private static final int MAX_TROLLEYS = 5;
    private static final int MAX_JOBS = 20;
    private static final int MAX_OWN_JOBS = 8;
    private static final int MAX_CHANGES = 10;

    private static final int LAST_ARRIVAL = 900;
    private static final int LAST_DEPARTURE = 999;
    private static final int LAST_PLACE = 99;
    private static final int MOST_PASSENGERS = 99;
    private static final int HIGHEST_RATE = 20;
    private static final int MOST_STOCK = 999;
    private static final int MOST_MEALS = 99;
    private static final int HIGHEST_SPEED = 9;
    private static final int MOST_UNITS = 5;
    private static final int LAST_TIME_ASKED = 9999;
    private static final int LONGEST_DELAY = 60;

    private static final int ALL_FINISHED = 0;
    private static final int LOADING = 1;
    private static final int WALKING = 2;
    private static final int WAITING = 3;
    private static final int UNLOADING = 4;
    private static final int WALKING_BACK = 5;

    private final Parser parser = new Parser();
    private final Run run = new Run();
    private final Run rehearsal = new Run();
    private final State trial = new State();
    private final State saved = new State();
    private final History history = new History();
    private final Solo solo = new Solo();
    private final Sharing sharing = new Sharing();
    private Facts facts = new Facts();
    private State state = new State();
    private boolean planned;
    private boolean anythingSaved;
    private int lastError;

    public TrolleyPlanner() {
    }

    // ---- input

    public int append(int a, int b, int c, int d, int e) {
        if (parser.length + BYTES_APPENDED > MAX_BYTES) {
            return FAILED;
        }
        parser.putFour(a);
        parser.putFour(b);
        parser.putFour(c);
        parser.putFour(d);
        parser.putFour(e);
        return parser.length;
    }

    public int load(int count) {
        if (count < 0 || count > parser.length) {
            return fail(BAD_ARGUMENT);
        }
        parser.parse(count);
        parser.length = 0;
        if (parser.code != Parser.NO_ERROR) {
            return fail(BAD_TEXT);
        }
        takeParsedPlan();
        return answer(state.jobCount);
    }

    public int parseError() {
        return parser.code;
    }

    public int errorPosition() {
        return parser.position;
    }

    public int buffered() {
        return parser.length;
    }

    // ---- the plan

    public int carCount(int train) {
        if (!isTrain(train)) {
            return fail(BAD_INDEX);
        }
        return answer(facts.carCount[train]);
    }

    public int mealCount() {
        if (!planned) {
            return fail(BAD_INDEX);
        }
        return answer(facts.mealCount);
    }

    public int trolleyCount() {
        if (!planned) {
            return fail(BAD_INDEX);
        }
        return answer(facts.trolleyCount);
    }

    public int jobCount() {
        if (!planned) {
            return fail(BAD_INDEX);
        }
        return answer(state.jobCount);
    }

    public int departure(int train) {
        if (!isTrain(train)) {
            return fail(BAD_INDEX);
        }
        return answer(state.departure[train]);
    }

    public int stock(int kitchen, int meal) {
        if (!isStock(kitchen, meal)) {
            return fail(BAD_INDEX);
        }
        return answer(state.stock[stockIndex(kitchen, meal)]);
    }

    public int demand(int train, int car, int meal) {
        if (!isCarMeal(train, car, meal)) {
            return fail(BAD_INDEX);
        }
        return answer(facts.wanted(doorIndex(train, car), meal));
    }

    public int jobTrolley(int job) {
        if (!isJob(job)) {
            return fail(BAD_INDEX);
        }
        return answer(state.trolley[job]);
    }

    public int jobQuantity(int job) {
        if (!isJob(job)) {
            return fail(BAD_INDEX);
        }
        return answer(state.quantity[job]);
    }

    // ---- the simulation

    public int startTime(int job) {
        if (!isJob(job)) {
            return fail(BAD_INDEX);
        }
        return answer(run.start[job]);
    }

    public int loaded(int job) {
        if (!isJob(job)) {
            return fail(BAD_INDEX);
        }
        return answer(run.taken[job]);
    }

    public int unloaded(int job) {
        if (!isJob(job)) {
            return fail(BAD_INDEX);
        }
        return answer(run.handed[job]);
    }

    public int unloadTime(int job) {
        if (!isJob(job)) {
            return fail(BAD_INDEX);
        }
        if (run.handed[job] == 0) {
            return fail(NO_RESULT);
        }
        return answer(run.begin[job]);
    }

    public int finishTime(int job) {
        if (!isJob(job)) {
            return fail(BAD_INDEX);
        }
        return answer(run.finish[job]);
    }

    public int delivered(int train, int car, int meal) {
        if (!isCarMeal(train, car, meal)) {
            return fail(BAD_INDEX);
        }
        return answer(handedAt(doorIndex(train, car), meal));
    }

    public int deliveredTotal() {
        if (!planned) {
            return fail(BAD_INDEX);
        }
        return answer(run.total);
    }

    public int leftBehind(int trolley) {
        if (!isTrolley(trolley)) {
            return fail(BAD_INDEX);
        }
        int left = 0;
        for (int job = 0; job < state.jobCount; job++) {
            if (state.trolley[job] == trolley) {
                left += run.taken[job] - run.handed[job];
            }
        }
        return answer(left);
    }

    public int finalStock(int kitchen, int meal) {
        if (!isStock(kitchen, meal)) {
            return fail(BAD_INDEX);
        }
        return answer(run.stock[stockIndex(kitchen, meal)]);
    }

    public int shortage(int train, int car, int meal) {
        if (!isCarMeal(train, car, meal)) {
            return fail(BAD_INDEX);
        }
        int door = doorIndex(train, car);
        return answer(Math.max(0, facts.wanted(door, meal) - handedAt(door, meal)));
    }

    public int longestWait(int trolley) {
        if (!isTrolley(trolley)) {
            return fail(BAD_INDEX);
        }
        int longest = 0;
        for (int job = 0; job < state.jobCount; job++) {
            if (state.trolley[job] == trolley && run.handed[job] > 0) {
                longest = Math.max(longest, run.begin[job] - run.reach[job]);
            }
        }
        return answer(longest);
    }

    public int doorBusy(int train, int car) {
        if (!isCar(train, car)) {
            return fail(BAD_INDEX);
        }
        int busy = 0;
        for (int job = 0; job < state.jobCount; job++) {
            if (state.door[job] == doorIndex(train, car)) {
                busy += run.end[job] - run.begin[job];
            }
        }
        return answer(busy);
    }

    public int stateAt(int trolley, int time) {
        if (!isTrolley(trolley)) {
            return fail(BAD_INDEX);
        }
        if (time < 0 || time > LAST_TIME_ASKED) {
            return fail(BAD_ARGUMENT);
        }
        return answer(run.activity(run.jobAt(state, trolley, time), time));
    }

    public int mealsOn(int trolley, int time) {
        if (!isTrolley(trolley)) {
            return fail(BAD_INDEX);
        }
        if (time < 0 || time > LAST_TIME_ASKED) {
            return fail(BAD_ARGUMENT);
        }
        int job = run.jobAt(state, trolley, time);
        if (job < 0) {
            return answer(0);
        }
        return answer(run.mealsAboard(facts, trolley, job, time));
    }

    // ---- sharing out

    public int share(int train, int car, int meal) {
        if (!isCarMeal(train, car, meal)) {
            return fail(BAD_INDEX);
        }
        shareInTrain(train, meal);
        return answer(sharing.part[car]);
    }

    public int carried(int train, int meal) {
        if (!isTrain(train) || !isMeal(meal)) {
            return fail(BAD_INDEX);
        }
        shareInTrain(train, meal);
        int sum = 0;
        for (int car = 0; car < facts.carCount[train]; car++) {
            sum += Math.max(0, sharing.part[car] - handedAt(doorIndex(train, car), meal));
        }
        return answer(sum);
    }

    public int jointShare(int train, int car, int meal) {
        if (!isCarMeal(train, car, meal)) {
            return fail(BAD_INDEX);
        }
        sharing.clear();
        addClaims(0, meal);
        addClaims(1, meal);
        sharing.shareOut(handedToTrain(0, meal) + handedToTrain(1, meal));
        int carsBefore = train == 0 ? 0 : facts.carCount[0];
        return answer(sharing.part[carsBefore + car]);
    }

    public long coverage(int train, int meal, boolean denominator) {
        if (!isTrain(train) || !isMeal(meal)) {
            return failLong(BAD_INDEX);
        }
        return answerLong(lowestTerm(train, meal, denominator));
    }

    public long leastCoverage(int train, boolean denominator) {
        if (!isTrain(train)) {
            return failLong(BAD_INDEX);
        }
        int least = 0;
        for (int meal = 1; meal < facts.mealCount; meal++) {
            if (compareCoverage(train, meal, train, least) < 0) {
                least = meal;
            }
        }
        return answerLong(lowestTerm(train, least, denominator));
    }

    public int betterServed(int meal) {
        if (!isMeal(meal)) {
            return fail(BAD_INDEX);
        }
        int order = compareCoverage(0, meal, 1, meal);
        if (order == 0) {
            return answer(-1);
        }
        return answer(order > 0 ? 0 : 1);
    }

    // ---- best sets of jobs

    public int bestSet(int trolley) {
        if (!isTrolley(trolley)) {
            return fail(BAD_INDEX);
        }
        solo.chooseBest(facts, state, trolley);
        return answer(solo.set);
    }

    public int bestMeals(int trolley) {
        if (!isTrolley(trolley)) {
            return fail(BAD_INDEX);
        }
        solo.chooseBest(facts, state, trolley);
        return answer(solo.mealsOf(solo.set));
    }

    public int bestOrder(int trolley, int place) {
        if (!isTrolley(trolley)) {
            return fail(BAD_INDEX);
        }
        solo.chooseBest(facts, state, trolley);
        if (place < 0 || place >= solo.orderLength) {
            return fail(NO_RESULT);
        }
        return answer(solo.order[place]);
    }

    public int leastSpeed(int trolley) {
        if (!isTrolley(trolley)) {
            return fail(BAD_INDEX);
        }
        for (int speed = 1; speed <= HIGHEST_SPEED; speed++) {
            solo.study(facts, state, trolley, speed);
            if (solo.canDo(solo.wholeSet())) {
                return answer(speed);
            }
        }
        return fail(NO_RESULT);
    }

    // ---- what-if questions

    public int neededDelay(int train) {
        if (!isTrain(train)) {
            return fail(BAD_INDEX);
        }
        trial.copyFrom(state);
        for (int delay = 0; delay <= LONGEST_DELAY; delay++) {
            trial.departure[train] = state.departure[train] + delay;
            rehearsal.play(facts, trial);
            if (!rehearsal.leavesBehind(trial, train)) {
                return answer(delay);
            }
        }
        return fail(NO_RESULT);
    }

    public int deliveredWithout(int trolley) {
        if (!isTrolley(trolley)) {
            return fail(BAD_INDEX);
        }
        trial.copyFrom(state);
        for (int job = state.jobCount - 1; job >= 0; job--) {
            if (state.trolley[job] == trolley) {
                trial.removeAt(job);
            }
        }
        return answer(rehearse());
    }

    public int worstJob() {
        if (!planned) {
            return fail(BAD_INDEX);
        }
        int worst = -1;
        int most = run.total;
        for (int job = 0; job < state.jobCount; job++) {
            trial.copyFrom(state);
            trial.removeAt(job);
            int total = rehearse();
            if (total > most) {
                most = total;
                worst = job;
            }
        }
        return worst < 0 ? fail(NO_RESULT) : answer(worst);
    }

    public int bestTrolley(int job) {
        if (!isJob(job)) {
            return fail(BAD_INDEX);
        }
        int best = -1;
        int most = -1;
        trial.copyFrom(state);
        for (int trolley = 0; trolley < facts.trolleyCount; trolley++) {
            if (trolley != state.trolley[job] && state.jobsOf(trolley) >= MAX_OWN_JOBS) {
                continue;
            }
            trial.trolley[job] = trolley;
            int total = rehearse();
            if (total > most) {
                most = total;
                best = trolley;
            }
        }
        return answer(best);
    }

    public int bestSwap() {
        if (!planned) {
            return fail(BAD_INDEX);
        }
        int best = -1;
        int most = run.total;
        trial.copyFrom(state);
        for (int first = 0; first < state.jobCount; first++) {
            for (int second = first + 1; second < state.jobCount; second++) {
                trial.exchange(first, second);
                int total = rehearse();
                trial.exchange(first, second);
                if (total > most) {
                    most = total;
                    best = 100 * first + second;
                }
            }
        }
        return best < 0 ? fail(NO_RESULT) : answer(best);
    }

    // ---- changes

    public int addJob(int trolley, int train, int car, int meal, int quantity) {
        if (!isTrolley(trolley) || !isCarMeal(train, car, meal)) {
            return fail(BAD_INDEX);
        }
        if (!isJobQuantity(quantity)) {
            return fail(BAD_ARGUMENT);
        }
        if (state.jobCount >= MAX_JOBS || state.jobsOf(trolley) >= MAX_OWN_JOBS) {
            return fail(NO_ROOM);
        }
        history.push(state);
        state.addLast(trolley, doorIndex(train, car), meal, quantity);
        return changed(state.jobCount);
    }

    public int removeJob(int job) {
        if (!isJob(job)) {
            return fail(BAD_INDEX);
        }
        history.push(state);
        state.removeAt(job);
        return changed(state.jobCount);
    }

    public int moveJob(int job, int to) {
        if (!isJob(job) || !isJob(to)) {
            return fail(BAD_INDEX);
        }
        history.push(state);
        for (int at = job; at < to; at++) {
            state.exchange(at, at + 1);
        }
        for (int at = job; at > to; at--) {
            state.exchange(at, at - 1);
        }
        return changed(0);
    }

    public int setDeparture(int train, int time) {
        if (!isTrain(train)) {
            return fail(BAD_INDEX);
        }
        if (time < facts.arrival[train] || time > LAST_DEPARTURE) {
            return fail(BAD_ARGUMENT);
        }
        history.push(state);
        int previous = state.departure[train];
        state.departure[train] = time;
        return changed(previous);
    }

    public int setStock(int kitchen, int meal, int quantity) {
        if (!isStock(kitchen, meal)) {
            return fail(BAD_INDEX);
        }
        if (quantity < 0 || quantity > MOST_STOCK) {
            return fail(BAD_ARGUMENT);
        }
        history.push(state);
        int index = stockIndex(kitchen, meal);
        int previous = state.stock[index];
        state.stock[index] = quantity;
        return changed(previous);
    }

    public int setQuantity(int job, int quantity) {
        if (!isJob(job)) {
            return fail(BAD_INDEX);
        }
        if (!isJobQuantity(quantity)) {
            return fail(BAD_ARGUMENT);
        }
        history.push(state);
        int previous = state.quantity[job];
        state.quantity[job] = quantity;
        return changed(previous);
    }

    public int applyBest(int trolley) {
        if (!isTrolley(trolley)) {
            return fail(BAD_INDEX);
        }
        solo.chooseBest(facts, state, trolley);
        history.push(state);
        trial.copyFrom(state);
        for (int place = 0; place < solo.orderLength; place++) {
            state.takeJob(trial, solo.order[place], solo.job[place]);
        }
        // From the last one on, for a removal moves the jobs behind it.
        for (int k = solo.count - 1; k >= solo.orderLength; k--) {
            state.removeAt(solo.job[k]);
        }
        return changed(solo.count - solo.orderLength);
    }

    public int undo() {
        if (!planned) {
            return fail(BAD_INDEX);
        }
        if (history.count == 0) {
            return fail(NO_RESULT);
        }
        history.popInto(state);
        return changed(history.count);
    }

    public int save() {
        if (!planned) {
            return fail(BAD_INDEX);
        }
        saved.copyFrom(state);
        anythingSaved = true;
        return answer(0);
    }

    public int restore() {
        if (!planned) {
            return fail(BAD_INDEX);
        }
        if (!anythingSaved) {
            return fail(NO_RESULT);
        }
        state.copyFrom(saved);
        history.count = 0;
        return changed(state.jobCount);
    }

    public int served(int i) throws NoSuchElementException {
        int found = -1;
        if (planned && i >= 0) {
            found = run.jobThatUnloads(state, i);
        }
        if (found < 0) {
            throw new NoSuchElementException();
        }
        return found;
    }

    public int error() {
        return lastError;
    }

    // ---- answers

    private int answer(int value) {
        lastError = 0;
        return value;
    }

    private long answerLong(long value) {
        lastError = 0;
        return value;
    }

    private int fail(int code) {
        lastError = code;
        return FAILED;
    }

    private long failLong(int code) {
        lastError = code;
        return FAILED_LONG;
    }

    /** Every answer about the simulation is read from run, so it is played anew after each change. */
    private int changed(int value) {
        run.play(facts, state);
        return answer(value);
    }

    private int rehearse() {
        rehearsal.play(facts, trial);
        return rehearsal.total;
    }

    /** The parser gets the old plan's objects to fill next time: no call makes new ones. */
    private void takeParsedPlan() {
        Facts oldFacts = facts;
        State oldState = state;
        facts = parser.facts;
        state = parser.state;
        parser.facts = oldFacts;
        parser.state = oldState;
        planned = true;
        anythingSaved = false;
        history.count = 0;
        run.play(facts, state);
    }

    // ---- indices

    private boolean isTrain(int train) {
        return planned && train >= 0 && train < TRAINS;
    }

    private boolean isCar(int train, int car) {
        return isTrain(train) && car >= 0 && car < facts.carCount[train];
    }

    private boolean isMeal(int meal) {
        return planned && meal >= 0 && meal < facts.mealCount;
    }

    private boolean isCarMeal(int train, int car, int meal) {
        return isCar(train, car) && isMeal(meal);
    }

    private boolean isStock(int kitchen, int meal) {
        return isMeal(meal) && kitchen >= 0 && kitchen < facts.kitchenCount;
    }

    private boolean isTrolley(int trolley) {
        return planned && trolley >= 0 && trolley < facts.trolleyCount;
    }

    private boolean isJob(int job) {
        return planned && job >= 0 && job < state.jobCount;
    }

    private static boolean isJobQuantity(int quantity) {
        return quantity >= 1 && quantity <= MOST_MEALS;
    }

    private static int doorIndex(int train, int car) {
        return train * MAX_CARS + car;
    }

    private static int stockIndex(int kitchen, int meal) {
        return kitchen * MAX_MEALS + meal;
    }

    // ---- sums and fractions

    private int handedAt(int door, int meal) {
        int sum = 0;
        for (int job = 0; job < state.jobCount; job++) {
            if (state.door[job] == door && state.meal[job] == meal) {
                sum += run.handed[job];
            }
        }
        return sum;
    }

    private int handedToTrain(int train, int meal) {
        int sum = 0;
        for (int car = 0; car < facts.carCount[train]; car++) {
            sum += handedAt(doorIndex(train, car), meal);
        }
        return sum;
    }

    private int wantedByTrain(int train, int meal) {
        int sum = 0;
        for (int car = 0; car < facts.carCount[train]; car++) {
            sum += facts.wanted(doorIndex(train, car), meal);
        }
        return sum;
    }

    private void addClaims(int train, int meal) {
        for (int car = 0; car < facts.carCount[train]; car++) {
            sharing.addClaim(facts.wanted(doorIndex(train, car), meal));
        }
    }

    private void shareInTrain(int train, int meal) {
        sharing.clear();
        addClaims(train, meal);
        sharing.shareOut(handedToTrain(train, meal));
    }

    private int coverageAbove(int train, int meal) {
        int wanted = wantedByTrain(train, meal);
        return wanted == 0 ? 1 : Math.min(wanted, handedToTrain(train, meal));
    }

    private int coverageBelow(int train, int meal) {
        return Math.max(1, wantedByTrain(train, meal));
    }

    private int lowestTerm(int train, int meal, boolean denominator) {
        int above = coverageAbove(train, meal);
        int below = coverageBelow(train, meal);
        return wholeParts(denominator ? below : above, commonDivisor(above, below));
    }

    private int compareCoverage(int train, int meal, int otherTrain, int otherMeal) {
        int left = coverageAbove(train, meal) * coverageBelow(otherTrain, otherMeal);
        int right = coverageAbove(otherTrain, otherMeal) * coverageBelow(train, meal);
        return Integer.compare(left, right);
    }

    private static int commonDivisor(int a, int b) {
        int divisor = a;
        int rest = b;
        // Two steps at least halve the rest, so 64 are enough for any int.
        for (int step = 0; step < 64 && rest != 0; step++) {
            int next = divisor % rest;
            divisor = rest;
            rest = next;
        }
        return divisor;
    }

    /** Every division by a size goes through here, so that none is by 0. */
    private static int wholeParts(int amount, int size) {
        return size < 1 ? 0 : amount / size;
    }

    private static int partsRoundedUp(int amount, int size) {
        return wholeParts(amount + size - 1, size);
    }

    /** What a text fixes until the next one is loaded. */
    private static final class Facts {
        final boolean[] hasTrain = new boolean[TRAINS];
        final int[] arrival = new int[TRAINS];
        final int[] carCount = new int[TRAINS];
        final int[] doorPlace = new int[MAX_DOORS];
        final int[] firstClass = new int[MAX_DOORS];
        final int[] secondClass = new int[MAX_DOORS];
        final long[] mealName = new long[MAX_MEALS];
        final int[] firstRate = new int[MAX_MEALS];
        final int[] secondRate = new int[MAX_MEALS];
        final int[] kitchenPlace = new int[MAX_KITCHENS];
        final int[] kitchen = new int[MAX_TROLLEYS];
        final int[] capacity = new int[MAX_TROLLEYS];
        final int[] speed = new int[MAX_TROLLEYS];
        final int[] loadUnits = new int[MAX_TROLLEYS];
        final int[] unloadUnits = new int[MAX_TROLLEYS];
        int mealCount;
        int kitchenCount;
        int trolleyCount;

        void clear() {
            for (int train = 0; train < TRAINS; train++) {
                hasTrain[train] = false;
                carCount[train] = 0;
            }
            mealCount = 0;
            kitchenCount = 0;
            trolleyCount = 0;
        }

        int wanted(int door, int meal) {
            return partsRoundedUp(firstClass[door] * firstRate[meal] + secondClass[door] * secondRate[meal], 10);
        }

        int walk(int trolley, int door, int atSpeed) {
            int distance = kitchenPlace[kitchen[trolley]] - doorPlace[door];
            return partsRoundedUp(Math.abs(distance), atSpeed);
        }

        int mostMeals(int trolley, int quantity) {
            return Math.min(quantity, capacity[trolley]);
        }

        int mealNamed(long name) {
            for (int meal = 0; meal < mealCount; meal++) {
                if (mealName[meal] == name) {
                    return meal;
                }
            }
            return -1;
        }
    }

    /** What changes can alter: the jobs, the departures and the stocks. */
    private static final class State {
        final int[] trolley = new int[MAX_JOBS];
        final int[] door = new int[MAX_JOBS];
        final int[] meal = new int[MAX_JOBS];
        final int[] quantity = new int[MAX_JOBS];
        final int[] departure = new int[TRAINS];
        final int[] stock = new int[MAX_STOCKS];
        int jobCount;

        void clear() {
            jobCount = 0;
            Arrays.fill(stock, 0);
        }

        void copyFrom(State other) {
            System.arraycopy(other.trolley, 0, trolley, 0, MAX_JOBS);
            System.arraycopy(other.door, 0, door, 0, MAX_JOBS);
            System.arraycopy(other.meal, 0, meal, 0, MAX_JOBS);
            System.arraycopy(other.quantity, 0, quantity, 0, MAX_JOBS);
            System.arraycopy(other.departure, 0, departure, 0, TRAINS);
            System.arraycopy(other.stock, 0, stock, 0, MAX_STOCKS);
            jobCount = other.jobCount;
        }

        void addLast(int itsTrolley, int itsDoor, int itsMeal, int itsQuantity) {
            if (jobCount >= MAX_JOBS) {
                return;
            }
            trolley[jobCount] = itsTrolley;
            door[jobCount] = itsDoor;
            meal[jobCount] = itsMeal;
            quantity[jobCount] = itsQuantity;
            jobCount++;
        }

        void takeJob(State from, int index, int to) {
            trolley[to] = from.trolley[index];
            door[to] = from.door[index];
            meal[to] = from.meal[index];
            quantity[to] = from.quantity[index];
        }

        void removeAt(int job) {
            for (int later = job + 1; later < jobCount; later++) {
                takeJob(this, later, later - 1);
            }
            jobCount--;
        }

        void exchange(int job, int other) {
            exchangeIn(trolley, job, other);
            exchangeIn(door, job, other);
            exchangeIn(meal, job, other);
            exchangeIn(quantity, job, other);
        }

        private static void exchangeIn(int[] row, int index, int other) {
            int kept = row[index];
            row[index] = row[other];
            row[other] = kept;
        }

        int jobsOf(int itsTrolley) {
            int sum = 0;
            for (int job = 0; job < jobCount; job++) {
                if (trolley[job] == itsTrolley) {
                    sum++;
                }
            }
            return sum;
        }

        /** The first job of the trolley from that index on, or -1. */
        int jobFrom(int itsTrolley, int index) {
            for (int job = index; job < jobCount; job++) {
                if (trolley[job] == itsTrolley) {
                    return job;
                }
            }
            return -1;
        }
    }

    /** The states before the latest changes, the latest one last. */
    private static final class History {
        private final State[] before = new State[MAX_CHANGES];
        int count;

        History() {
            for (int i = 0; i < MAX_CHANGES; i++) {
                before[i] = new State();
            }
        }

        void push(State state) {
            if (count >= MAX_CHANGES) {
                dropFirst();
            }
            before[count].copyFrom(state);
            count++;
        }

        void popInto(State state) {
            if (count <= 0) {
                return;
            }
            count--;
            state.copyFrom(before[count]);
        }

        private void dropFirst() {
            State first = before[0];
            for (int i = 1; i < MAX_CHANGES; i++) {
                before[i - 1] = before[i];
            }
            before[MAX_CHANGES - 1] = first;
            count = MAX_CHANGES - 1;
        }
    }

    /** The input buffer, and what becomes of it: a plan, or an error and its position. */
    private static final class Parser {
        static final int NO_ERROR = 0;
        private static final int SYNTAX = 1;
        private static final int RANGE = 2;
        private static final int TWICE = 3;
        private static final int TOO_MANY = 4;
        private static final int INCOMPLETE = 5;

        private static final int END = 0;
        private static final int WORD = 1;
        private static final int NUMBER = 2;
        private static final int SEMICOLON = 3;
        private static final int WRONG = 4;

        // A word as a number: its letters as the bytes of a long, the last letter in the lowest byte.
        private static final long TRAIN = 0x747261696eL;
        private static final long CAR = 0x636172L;
        private static final long MEAL = 0x6d65616cL;
        private static final long KITCHEN = 0x6b69746368656eL;
        private static final long STOCK = 0x73746f636bL;
        private static final long TROLLEY = 0x74726f6c6c6579L;
        private static final long JOB = 0x6a6f62L;
        private static final long FROM = 0x66726f6dL;
        private static final long TO = 0x746fL;

        private static final int LONGEST_WORD = 8;
        private static final int LONGEST_NUMBER = 3;

        private final byte[] bytes = new byte[MAX_BYTES];
        private final boolean[] stocked = new boolean[MAX_STOCKS];
        int length;
        int code;
        int position = -1;
        Facts facts = new Facts();
        State state = new State();

        private int textEnd;
        private int next;
        private int tokenStart;
        private int kind;
        private int number;
        private long word;

        void putFour(int four) {
            for (int shift = 24; shift >= 0; shift -= 8) {
                if (length < MAX_BYTES) {
                    bytes[length] = (byte) (four >>> shift);
                    length++;
                }
            }
        }

        void parse(int count) {
            facts.clear();
            state.clear();
            for (int index = 0; index < MAX_STOCKS; index++) {
                stocked[index] = false;
            }
            code = NO_ERROR;
            position = -1;
            textEnd = count;
            next = 0;
            for (int line = 0; line <= MAX_BYTES; line++) {
                readLine();
                advance();
                if (code != NO_ERROR || kind != SEMICOLON) {
                    break;
                }
            }
            if (kind != END) {
                refuse(SYNTAX);
            }
            if (!isComplete()) {
                refuse(INCOMPLETE);
            }
        }

        /** Only the first error counts: those behind it come from tokens that were not read. */
        private void refuse(int itsCode) {
            if (code == NO_ERROR) {
                code = itsCode;
                position = tokenStart;
            }
        }

        private boolean isComplete() {
            for (int train = 0; train < TRAINS; train++) {
                if (!facts.hasTrain[train] || facts.carCount[train] == 0) {
                    return false;
                }
            }
            return facts.mealCount > 0 && facts.trolleyCount > 0;
        }

        // -- the lines

        private void readLine() {
            advance();
            if (kind != WORD) {
                refuse(SYNTAX);
            } else if (word == TRAIN) {
                readTrain();
            } else if (word == CAR) {
                readCar();
            } else if (word == MEAL) {
                readMeal();
            } else if (word == KITCHEN) {
                readKitchen();
            } else if (word == STOCK) {
                readStock();
            } else if (word == TROLLEY) {
                readTrolley();
            } else if (word == JOB) {
                readJob();
            } else {
                refuse(SYNTAX);
            }
        }

        private void readTrain() {
            int train = takeNumber(0, TRAINS - 1);
            if (facts.hasTrain[train]) {
                refuse(TWICE);
            }
            takeKeyword(FROM);
            int arrival = takeNumber(0, LAST_ARRIVAL);
            takeKeyword(TO);
            int departure = takeNumber(arrival, LAST_DEPARTURE);
            if (code == NO_ERROR) {
                facts.hasTrain[train] = true;
                facts.arrival[train] = arrival;
                state.departure[train] = departure;
            }
        }

        private void readCar() {
            int train = takeNumber(0, TRAINS - 1);
            refuseUnknownTrain(train);
            if (facts.carCount[train] >= MAX_CARS) {
                refuse(TOO_MANY);
            }
            int place = takeNumber(0, LAST_PLACE);
            int first = takeNumber(0, MOST_PASSENGERS);
            int second = takeNumber(0, MOST_PASSENGERS);
            if (code == NO_ERROR) {
                int door = doorIndex(train, facts.carCount[train]);
                facts.doorPlace[door] = place;
                facts.firstClass[door] = first;
                facts.secondClass[door] = second;
                facts.carCount[train]++;
            }
        }

        private void readMeal() {
            if (facts.mealCount >= MAX_MEALS) {
                refuse(TOO_MANY);
            }
            takeName();
            long name = word;
            if (facts.mealNamed(name) >= 0) {
                refuse(TWICE);
            }
            int firstRate = takeNumber(0, HIGHEST_RATE);
            int secondRate = takeNumber(0, HIGHEST_RATE);
            if (code == NO_ERROR) {
                facts.mealName[facts.mealCount] = name;
                facts.firstRate[facts.mealCount] = firstRate;
                facts.secondRate[facts.mealCount] = secondRate;
                facts.mealCount++;
            }
        }

        private void readKitchen() {
            if (facts.kitchenCount >= MAX_KITCHENS) {
                refuse(TOO_MANY);
            }
            int place = takeNumber(0, LAST_PLACE);
            if (code == NO_ERROR) {
                facts.kitchenPlace[facts.kitchenCount] = place;
                facts.kitchenCount++;
            }
        }

        private void readStock() {
            int kitchen = takeNumber(0, facts.kitchenCount - 1);
            takeName();
            int meal = namedMeal();
            int index = stockIndex(kitchen, meal);
            if (stocked[index]) {
                refuse(TWICE);
            }
            int quantity = takeNumber(0, MOST_STOCK);
            if (code == NO_ERROR) {
                stocked[index] = true;
                state.stock[index] = quantity;
            }
        }

        private void readTrolley() {
            if (facts.trolleyCount >= MAX_TROLLEYS) {
                refuse(TOO_MANY);
            }
            int kitchen = takeNumber(0, facts.kitchenCount - 1);
            int capacity = takeNumber(1, MOST_MEALS);
            int speed = takeNumber(1, HIGHEST_SPEED);
            int loadUnits = takeNumber(1, MOST_UNITS);
            int unloadUnits = takeNumber(1, MOST_UNITS);
            if (code == NO_ERROR) {
                facts.kitchen[facts.trolleyCount] = kitchen;
                facts.capacity[facts.trolleyCount] = capacity;
                facts.speed[facts.trolleyCount] = speed;
                facts.loadUnits[facts.trolleyCount] = loadUnits;
                facts.unloadUnits[facts.trolleyCount] = unloadUnits;
                facts.trolleyCount++;
            }
        }

        private void readJob() {
            if (state.jobCount >= MAX_JOBS) {
                refuse(TOO_MANY);
            }
            int trolley = takeNumber(0, facts.trolleyCount - 1);
            if (state.jobsOf(trolley) >= MAX_OWN_JOBS) {
                refuse(TOO_MANY);
            }
            int train = takeNumber(0, TRAINS - 1);
            refuseUnknownTrain(train);
            int car = takeNumber(0, facts.carCount[train] - 1);
            takeName();
            int meal = namedMeal();
            int quantity = takeNumber(1, MOST_MEALS);
            if (code == NO_ERROR) {
                state.addLast(trolley, doorIndex(train, car), meal, quantity);
            }
        }

        // -- the tokens of a line: after an error each take answers an index that can be used

        /** The number, or low after an error. */
        private int takeNumber(int low, int high) {
            advance();
            if (kind != NUMBER) {
                refuse(SYNTAX);
            } else if (number < low || number > high) {
                refuse(RANGE);
            }
            return code == NO_ERROR ? number : low;
        }

        private void refuseUnknownTrain(int train) {
            if (!facts.hasTrain[train]) {
                refuse(RANGE);
            }
        }

        private void takeKeyword(long keyword) {
            advance();
            if (kind != WORD || word != keyword) {
                refuse(SYNTAX);
            }
        }

        private void takeName() {
            advance();
            if (kind != WORD || isKeyword()) {
                refuse(SYNTAX);
            }
        }

        /** The meal that the name just taken tells. */
        private int namedMeal() {
            int meal = facts.mealNamed(word);
            if (meal < 0) {
                refuse(RANGE);
            }
            return Math.max(0, meal);
        }

        private boolean isKeyword() {
            return word == TRAIN || word == CAR || word == MEAL || word == KITCHEN || word == STOCK
                || word == TROLLEY || word == JOB || word == FROM || word == TO;
        }

        // -- the bytes

        private void advance() {
            if (code != NO_ERROR) {
                return;
            }
            while (next < textEnd && bytes[next] == ' ') {
                next++;
            }
            tokenStart = next;
            kind = END;
            if (next < textEnd) {
                scanLetters();
            }
            if (next < textEnd && kind == END) {
                scanDigits();
            }
            if (next < textEnd && kind == END) {
                kind = bytes[next] == ';' ? SEMICOLON : WRONG;
                next++;
            }
        }

        private void scanLetters() {
            word = 0;
            while (next < textEnd && bytes[next] >= 'a' && bytes[next] <= 'z') {
                word = word << 8 | bytes[next];
                next++;
            }
            if (next > tokenStart) {
                kind = next - tokenStart > LONGEST_WORD ? WRONG : WORD;
            }
        }

        private void scanDigits() {
            number = 0;
            while (next < textEnd && bytes[next] >= '0' && bytes[next] <= '9') {
                number = number * 10 + (bytes[next] - '0');
                next++;
            }
            if (next > tokenStart) {
                kind = next - tokenStart > LONGEST_NUMBER ? WRONG : NUMBER;
            }
        }
    }

    /** The simulation of a state, and what it tells of each job. */
    private static final class Run {
        private static final int DONE = 0;
        private static final int STARTS_JOB = 1;
        private static final int REACHES_DOOR = 2;
        private static final int BRINGS_BACK = 3;
        // A job has at most three events: its start, the door, the meals brought back.
        private static final int MAX_EVENTS = 3 * MAX_JOBS;

        final int[] start = new int[MAX_JOBS];
        final int[] taken = new int[MAX_JOBS];
        final int[] loadEnd = new int[MAX_JOBS];
        final int[] reach = new int[MAX_JOBS];
        final int[] begin = new int[MAX_JOBS];
        final int[] end = new int[MAX_JOBS];
        final int[] handed = new int[MAX_JOBS];
        final int[] finish = new int[MAX_JOBS];
        final int[] stock = new int[MAX_STOCKS];
        int total;

        // Each trolley has one event to come; doorFree tells from when on each door is free.
        private final int[] event = new int[MAX_TROLLEYS];
        private final int[] time = new int[MAX_TROLLEYS];
        private final int[] job = new int[MAX_TROLLEYS];
        private final int[] doorFree = new int[MAX_DOORS];

        void play(Facts facts, State state) {
            System.arraycopy(state.stock, 0, stock, 0, MAX_STOCKS);
            Arrays.fill(doorFree, 0);
            total = 0;
            for (int trolley = 0; trolley < facts.trolleyCount; trolley++) {
                awaitStart(state, trolley, 0, 0);
            }
            for (int step = 0; step < MAX_EVENTS; step++) {
                int trolley = nextTrolley(facts.trolleyCount);
                if (trolley < 0) {
                    return;
                }
                if (event[trolley] == STARTS_JOB) {
                    startJob(facts, state, trolley);
                } else if (event[trolley] == REACHES_DOOR) {
                    reachDoor(facts, state, trolley);
                } else {
                    bringBack(facts, state, trolley);
                }
            }
        }

        private void awaitStart(State state, int trolley, int fromJob, int atTime) {
            job[trolley] = state.jobFrom(trolley, fromJob);
            time[trolley] = atTime;
            event[trolley] = job[trolley] < 0 ? DONE : STARTS_JOB;
        }

        private int nextTrolley(int trolleyCount) {
            int next = -1;
            int least = 0;
            for (int trolley = 0; trolley < trolleyCount; trolley++) {
                // Doubled times leave room for meals that are brought back before all else of that time.
                int key = 2 * time[trolley] + (event[trolley] == BRINGS_BACK ? 0 : 1);
                if (event[trolley] != DONE && (next < 0 || key < least)) {
                    next = trolley;
                    least = key;
                }
            }
            return next;
        }

        private void startJob(Facts facts, State state, int trolley) {
            int now = job[trolley];
            int from = stockIndex(facts.kitchen[trolley], state.meal[now]);
            int meals = Math.min(facts.mostMeals(trolley, state.quantity[now]), stock[from]);
            start[now] = time[trolley];
            taken[now] = meals;
            stock[from] -= meals;
            loadEnd[now] = start[now] + meals * facts.loadUnits[trolley];
            if (meals == 0) {
                setNoUnloading(now, start[now]);
                finish[now] = start[now];
                awaitStart(state, trolley, now + 1, start[now]);
                return;
            }
            time[trolley] = loadEnd[now] + facts.walk(trolley, state.door[now], facts.speed[trolley]);
            event[trolley] = REACHES_DOOR;
        }

        private void setNoUnloading(int itsJob, int reached) {
            reach[itsJob] = reached;
            begin[itsJob] = reached;
            end[itsJob] = reached;
            handed[itsJob] = 0;
        }

        private void reachDoor(Facts facts, State state, int trolley) {
            int now = job[trolley];
            setNoUnloading(now, time[trolley]);
            unload(facts, state, trolley);
            finish[now] = end[now] + facts.walk(trolley, state.door[now], facts.speed[trolley]);
            time[trolley] = finish[now];
            // Where the way back takes no time this event is the very next one: no other has a smaller key.
            event[trolley] = BRINGS_BACK;
        }

        private void unload(Facts facts, State state, int trolley) {
            int now = job[trolley];
            int door = state.door[now];
            int train = door < MAX_CARS ? 0 : 1;
            int units = facts.unloadUnits[trolley];
            int earliest = Math.max(reach[now], Math.max(facts.arrival[train], doorFree[door]));
            int timeLeft = Math.max(0, state.departure[train] - earliest);
            int meals = Math.min(taken[now], wholeParts(timeLeft, units));
            if (meals == 0) {
                return;
            }
            begin[now] = earliest;
            end[now] = earliest + meals * units;
            handed[now] = meals;
            doorFree[door] = end[now];
            total += meals;
        }

        private void bringBack(Facts facts, State state, int trolley) {
            int now = job[trolley];
            stock[stockIndex(facts.kitchen[trolley], state.meal[now])] += taken[now] - handed[now];
            awaitStart(state, trolley, now + 1, finish[now]);
        }

        // -- what the run tells

        boolean leavesBehind(State state, int train) {
            for (int k = 0; k < state.jobCount; k++) {
                int itsTrain = state.door[k] < MAX_CARS ? 0 : 1;
                if (itsTrain == train && handed[k] < taken[k]) {
                    return true;
                }
            }
            return false;
        }

        /** The job that a trolley is at, or -1 when it has finished all. */
        int jobAt(State state, int trolley, int atTime) {
            for (int k = 0; k < state.jobCount; k++) {
                if (state.trolley[k] == trolley && finish[k] > atTime) {
                    return k;
                }
            }
            return -1;
        }

        int activity(int itsJob, int atTime) {
            if (itsJob < 0) {
                return ALL_FINISHED;
            }
            if (atTime < loadEnd[itsJob]) {
                return LOADING;
            }
            if (atTime < reach[itsJob]) {
                return WALKING;
            }
            if (atTime < begin[itsJob]) {
                return WAITING;
            }
            return atTime < end[itsJob] ? UNLOADING : WALKING_BACK;
        }

        int mealsAboard(Facts facts, int trolley, int itsJob, int atTime) {
            switch (activity(itsJob, atTime)) {
                case LOADING:
                    return wholeParts(atTime - start[itsJob], facts.loadUnits[trolley]);
                case UNLOADING:
                    return taken[itsJob] - wholeParts(atTime - begin[itsJob], facts.unloadUnits[trolley]);
                case WALKING_BACK:
                    return taken[itsJob] - handed[itsJob];
                default:
                    return taken[itsJob];
            }
        }

        int jobThatUnloads(State state, int place) {
            int before = 0;
            for (int k = 0; k < state.jobCount; k++) {
                if (handed[k] > 0) {
                    if (before == place) {
                        return k;
                    }
                    before++;
                }
            }
            return -1;
        }
    }

    /** Largest remainders: claims are added, then meals are shared out to the parts. */
    private static final class Sharing {
        private final int[] claim = new int[MAX_DOORS];
        private final int[] rest = new int[MAX_DOORS];
        final int[] part = new int[MAX_DOORS];
        private int count;
        private int sum;

        void clear() {
            count = 0;
            sum = 0;
        }

        void addClaim(int meals) {
            if (count < MAX_DOORS) {
                claim[count] = meals;
                sum += meals;
                count++;
            }
        }

        void shareOut(int meals) {
            if (meals >= sum) {
                System.arraycopy(claim, 0, part, 0, MAX_DOORS);
                return;
            }
            int left = meals;
            for (int i = 0; i < count; i++) {
                int quota = meals * claim[i];
                part[i] = wholeParts(quota, sum);
                rest[i] = quota - part[i] * sum;
                left -= part[i];
            }
            for (int given = 0; given < left; given++) {
                int largest = largestRest();
                part[largest]++;
                rest[largest] = -1;
            }
        }

        private int largestRest() {
            int largest = 0;
            for (int i = 1; i < count; i++) {
                if (rest[i] > rest[largest]) {
                    largest = i;
                }
            }
            return largest;
        }
    }

    /** What one trolley can do alone: its jobs, and for each set of them the latest time to begin it. */
    private static final class Solo {
        private static final int TOO_LATE = -1;
        private static final int ANY_TIME = 1000000;

        final int[] job = new int[MAX_OWN_JOBS];
        final int[] order = new int[MAX_OWN_JOBS];
        int count;
        int set;
        int orderLength;

        private final int[] meals = new int[MAX_OWN_JOBS];
        private final int[] toDoor = new int[MAX_OWN_JOBS];
        private final int[] unloading = new int[MAX_OWN_JOBS];
        private final int[] walkBack = new int[MAX_OWN_JOBS];
        private final int[] arrival = new int[MAX_OWN_JOBS];
        private final int[] departure = new int[MAX_OWN_JOBS];
        private final int[] latest = new int[1 << MAX_OWN_JOBS];

        void study(Facts facts, State state, int trolley, int speed) {
            count = 0;
            for (int index = 0; index < state.jobCount && count < MAX_OWN_JOBS; index++) {
                if (state.trolley[index] == trolley) {
                    studyJob(facts, state, index, speed);
                }
            }
            latest[0] = ANY_TIME;
            for (int of = 1; of <= wholeSet(); of++) {
                latest[of] = latestBegin(of);
            }
        }

        private void studyJob(Facts facts, State state, int index, int speed) {
            int trolley = state.trolley[index];
            int door = state.door[index];
            int train = door < MAX_CARS ? 0 : 1;
            job[count] = index;
            meals[count] = facts.mostMeals(trolley, state.quantity[index]);
            walkBack[count] = facts.walk(trolley, door, speed);
            toDoor[count] = meals[count] * facts.loadUnits[trolley] + walkBack[count];
            unloading[count] = meals[count] * facts.unloadUnits[trolley];
            arrival[count] = facts.arrival[train];
            departure[count] = state.departure[train];
            count++;
        }

        int wholeSet() {
            return (1 << count) - 1;
        }

        boolean canDo(int of) {
            return latest[of] >= 0;
        }

        int mealsOf(int of) {
            int sum = 0;
            for (int k = 0; k < count; k++) {
                if ((of >> k & 1) == 1) {
                    sum += meals[k];
                }
            }
            return sum;
        }

        private int latestBegin(int of) {
            int best = TOO_LATE;
            for (int k = 0; k < count; k++) {
                if ((of >> k & 1) == 1) {
                    best = Math.max(best, latestBeginWith(k, of));
                }
            }
            return best;
        }

        /** The latest time to begin the set with its k-th job. */
        private int latestBeginWith(int k, int of) {
            int back = latest[of & ~(1 << k)];
            int unload = Math.min(departure[k], back - walkBack[k]) - unloading[k];
            return unload < arrival[k] ? TOO_LATE : unload - toDoor[k];
        }

        void chooseBest(Facts facts, State state, int trolley) {
            study(facts, state, trolley, facts.speed[trolley]);
            set = 0;
            int most = 0;
            for (int of = 1; of <= wholeSet(); of++) {
                if (canDo(of) && mealsOf(of) > most) {
                    most = mealsOf(of);
                    set = of;
                }
            }
            layOrder();
        }

        /** Beginning no later than latest is enough for the rest, so the first job that fits is right. */
        private void layOrder() {
            orderLength = 0;
            int rest = set;
            int time = 0;
            for (int place = 0; place < count && rest != 0; place++) {
                int k = firstThatFits(rest, time);
                order[place] = job[k];
                orderLength++;
                time = Math.max(time + toDoor[k], arrival[k]) + unloading[k] + walkBack[k];
                rest &= ~(1 << k);
            }
        }

        private int firstThatFits(int rest, int time) {
            for (int k = 0; k < count; k++) {
                if ((rest >> k & 1) == 1 && latestBeginWith(k, rest) >= time) {
                    return k;
                }
            }
            return 0;
        }
    }
}
