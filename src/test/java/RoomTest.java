import java.lang.management.ManagementFactory;
import java.lang.reflect.Array;
import java.lang.reflect.Field;
import java.lang.reflect.Modifier;
import java.util.IdentityHashMap;
import java.util.Map;

/** All calls of a run share one room that is never cleared: objects are small, and calls make next to nothing. */
public final class RoomTest {
    private static final int MOST_OBJECTS = 100;
    private static final int MOST_ELEMENTS = 2000;
    // Of 24 calls each, with one round ahead of them: no more than the 512 that an object is used for.
    private static final int ROUNDS = 19;
    // What measuring and compiling on the side may take; one array of people made by each call would be 60,000.
    private static final long SLACK_BYTES = 20_000;

    private static final Due due = new Due();
    private static long answers;

    public static void main(String[] args) throws Exception {
        oneObject();
        callsMakeNothing();
        due.isTrue("calls answered", answers != 0);
        due.end();
    }

    private static void oneObject() throws Exception {
        Map<Object, Integer> seen = new IdentityHashMap<>();
        measure(new CabinChain(), seen);
        int elements = seen.values().stream().mapToInt(Integer::intValue).sum();
        System.out.println("one CabinChain: " + seen.size() + " objects and arrays, " + elements + " fields and elements");
        due.isTrue("few objects", seen.size() <= MOST_OBJECTS);
        due.isTrue("few fields and elements", elements <= MOST_ELEMENTS);
    }

    private static void measure(Object o, Map<Object, Integer> seen) throws Exception {
        if (o == null || seen.containsKey(o)) {
            return;
        }
        if (o.getClass().isArray()) {
            seen.put(o, Array.getLength(o));
            for (int i = 0; i < Array.getLength(o) && o instanceof Object[]; i++) {
                measure(Array.get(o, i), seen);
            }
            return;
        }
        int fields = 0;
        seen.put(o, 0);
        for (Field f : o.getClass().getDeclaredFields()) {
            if (!Modifier.isStatic(f.getModifiers())) {
                fields++;
                f.setAccessible(true);
                if (!f.getType().isPrimitive()) {
                    measure(f.get(o), seen);
                }
            }
        }
        seen.put(o, fields);
    }

    private static void callsMakeNothing() {
        CabinChain x = new CabinChain();
        x.house(8, 12, 1, 1);
        for (int i = 0; i < 30; i++) {
            x.person(i, i % 8, (i + 3) % 8, 1 + i % 2, 1 + i % 3, i % 2, 0);
        }
        askAll(x);
        long before = allocated();
        for (int i = 0; i < ROUNDS; i++) {
            askAll(x);
        }
        long bytes = allocated() - before;
        System.out.println("calls on it: " + bytes + " bytes");
        due.isTrue("calls make nothing", bytes <= SLACK_BYTES);
    }

    private static void askAll(CabinChain x) {
        x.anew();
        answers += x.ticks(200) + x.stop(true) + x.wheel() + x.turn(5) + x.shut(3, true) + x.box(3, 4) + x.left();
        answers += x.about(3, 4) + x.stands(3, 0) + x.safe(2) + x.cost(4, 3) + x.bestSpeed() + x.bestStairs();
        answers += x.day(3) + x.counted(2, 0) + x.tell(1, 1, 5) + x.fits(9) + x.wrong() + x.keep() + x.beside(0, 2);
        answers += x.count(6) + x.speed(1) + x.person(1, 0, 1, 1, 1, 0, 0);
    }

    private static long allocated() {
        var bean = (com.sun.management.ThreadMXBean) ManagementFactory.getThreadMXBean();
        return bean.getThreadAllocatedBytes(Thread.currentThread().getId());
    }
}
