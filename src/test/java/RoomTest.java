import com.sun.management.ThreadMXBean;
import java.lang.management.ManagementFactory;
import java.lang.reflect.Array;
import java.lang.reflect.Field;
import java.lang.reflect.Modifier;
import java.util.IdentityHashMap;
import java.util.Map;

/** The calls of a run have little room: all of it is taken when the object is made. */
public final class RoomTest {
    private static final Checks CHECKS = new Checks("RoomTest");
    private static final int OBJECTS_FOR_ALL_CALLS = 600000;
    private static final int ELEMENTS_FOR_ALL_CALLS = 7300000;
    private static final int CALLS = 512;

    private final Map<Object, Boolean> seen = new IdentityHashMap<>();
    private int elements;

    public static void main(String[] args) throws Exception {
        RoomTest room = new RoomTest();
        TrolleyPlanner planner = new TrolleyPlanner();
        room.count(planner);
        System.out.println("RoomTest: a planner takes " + room.seen.size() + " objects, " + room.elements + " elements");
        // Even a run that makes nothing but planners stays within its room.
        CHECKS.due("objects are few", room.seen.size() * CALLS < OBJECTS_FOR_ALL_CALLS ? 1 : 0, 1);
        CHECKS.due("elements are few", room.elements * CALLS < ELEMENTS_FOR_ALL_CALLS ? 1 : 0, 1);
        callsMakeNothing();
        CHECKS.end();
    }

    private void count(Object object) throws Exception {
        if (object == null || seen.put(object, true) != null) {
            return;
        }
        if (object.getClass().isArray()) {
            elements += Array.getLength(object);
            if (object instanceof Object[] objects) {
                for (Object inside : objects) {
                    count(inside);
                }
            }
            return;
        }
        for (Field field : object.getClass().getDeclaredFields()) {
            if (!Modifier.isStatic(field.getModifiers())) {
                elements++;
                if (!field.getType().isPrimitive()) {
                    field.setAccessible(true);
                    count(field.get(object));
                }
            }
        }
    }

    private static void callsMakeNothing() {
        StringBuilder text = new StringBuilder(Texts.SMALL + ";trolley 0 9 2 1 1;trolley 0 9 1 2 1");
        for (int job = 0; job < 20; job++) {
            text.append(";job ").append(job % 3).append(' ').append(job % 2).append(" 0 soup ").append(1 + job % 5);
        }
        int[] words = Texts.words(text.toString());
        ThreadMXBean threads = (ThreadMXBean) ManagementFactory.getThreadMXBean();
        long self = Thread.currentThread().getId();
        // Loading of classes may take bytes in the first round, so the least of several rounds tells.
        long least = Long.MAX_VALUE;
        for (int round = 0; round < 5; round++) {
            TrolleyPlanner planner = new TrolleyPlanner();
            long before = threads.getThreadAllocatedBytes(self);
            callAll(planner, words, text.length());
            least = Math.min(least, threads.getThreadAllocatedBytes(self) - before);
        }
        CHECKS.due("bytes that the calls take", least, 0);
    }

    private static void callAll(TrolleyPlanner p, int[] w, int length) {
        for (int i = 0; i < w.length; i += 5) {
            p.append(w[i], w[i + 1], w[i + 2], w[i + 3], w[i + 4]);
        }
        p.load(length);
        p.save();
        for (int i = 0; i < 12; i++) {
            p.setQuantity(i, 3);
            p.moveJob(i, 19 - i);
            p.setDeparture(0, 50 + i);
            p.setStock(0, 0, 50 + i);
        }
        for (int trolley = 0; trolley < 3; trolley++) {
            p.bestSet(trolley);
            p.bestMeals(trolley);
            p.bestOrder(trolley, 0);
            p.leastSpeed(trolley);
            p.deliveredWithout(trolley);
            p.bestTrolley(trolley);
            p.stateAt(trolley, 5);
            p.mealsOn(trolley, 5);
            p.longestWait(trolley);
            p.leftBehind(trolley);
        }
        p.bestSwap();
        p.worstJob();
        p.neededDelay(0);
        p.neededDelay(1);
        p.served(0);
        p.share(0, 0, 0);
        p.jointShare(0, 0, 0);
        p.carried(0, 0);
        p.coverage(0, 0, true);
        p.leastCoverage(1, false);
        p.betterServed(0);
        p.applyBest(0);
        p.undo();
        p.removeJob(0);
        p.addJob(0, 0, 0, 0, 1);
        p.restore();
        p.load(-1);
    }

    private RoomTest() {
    }
}
