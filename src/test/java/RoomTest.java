import com.sun.management.ThreadMXBean;
import java.lang.management.ManagementFactory;
import java.lang.reflect.Array;
import java.lang.reflect.Field;
import java.lang.reflect.Modifier;
import java.util.IdentityHashMap;
import java.util.Map;

/** All calls of a run share one room: an object makes its rows with itself, and then no more. */
public final class RoomTest {
    private static final int OBJECTS = 500;
    private static final int MOST_BYTES_OF_AN_OBJECT = 3000;
    private static final int LEAST_BYTES_OF_ANYTHING = 16;
    private static final char[] FORMULA =
            "a 1 3 0 e 2 0 a 4 5 6 0 e 7 8 0 1 -2 0 -1 2 0 3 4 7 0 -3 -4 8 0".toCharArray();
    private static final char[] CLAUSES = "r 1 1 -2 0 0 2 -1 2 0 0 3 1 -1 0 1 2 0".toCharArray();
    private static final char[] CUBES = "s 5 1 2 7 8 0 0 6 1 0 5 0 7 x".toCharArray();
    private static final ThreadMXBean THREADS =
            (ThreadMXBean) ManagementFactory.getThreadMXBean();

    public static void main(String[] args) throws IllegalAccessException {
        counted(new QuantifierProofs(), "a new object");
        QuantifierProofs used = new QuantifierProofs();
        everyCall(used);
        counted(used, "a used object");
        nothingIsMade();
        Checks.finish("RoomTest");
    }

    private static void nothingIsMade() {
        if (!THREADS.isThreadAllocatedMemorySupported()) {
            System.out.println("RoomTest: this machine does not tell what is made");
            return;
        }
        // Classes that are loaded by the first calls would count too.
        int answers = everyCall(new QuantifierProofs());
        made();

        long before = made();
        QuantifierProofs[] objects = new QuantifierProofs[OBJECTS];
        for (int i = 0; i < OBJECTS; i++) {
            objects[i] = new QuantifierProofs();
        }
        long bytes = made() - before;
        Checks.due(bytes + " bytes are few", bytes <= OBJECTS * MOST_BYTES_OF_AN_OBJECT, true);

        before = made();
        int sum = 0;
        for (QuantifierProofs x : objects) {
            sum += everyCall(x);
        }
        bytes = made() - before;
        // The asking itself may make a little, but not as much as one call of each object would.
        Checks.due(bytes + " bytes are none", bytes < OBJECTS * LEAST_BYTES_OF_ANYTHING, true);
        Checks.due("and the calls were made", sum, answers * OBJECTS);
    }

    /** As many objects and arrays, and fields and elements, as README.md tells. */
    private static void counted(QuantifierProofs x, String what) throws IllegalAccessException {
        Map<Object, Object> seen = new IdentityHashMap<>();
        int fields = count(x, seen);
        Checks.due("objects and arrays of " + what, seen.size(), 17);
        Checks.due("fields and elements of " + what, fields, 380);
    }

    private static int count(Object object, Map<Object, Object> seen)
            throws IllegalAccessException {
        if (object == null || seen.put(object, object) != null) {
            return 0;
        }
        if (object.getClass().isArray()) {
            return Array.getLength(object);
        }
        int sum = 0;
        for (Field f : object.getClass().getDeclaredFields()) {
            if (!Modifier.isStatic(f.getModifiers())) {
                f.setAccessible(true);
                sum += 1 + (f.getType().isPrimitive() ? 0 : count(f.get(object), seen));
            }
        }
        return sum;
    }

    private static long made() {
        return THREADS.getThreadAllocatedBytes(Thread.currentThread().getId());
    }

    private static int everyCall(QuantifierProofs x) {
        int sum = 0;
        typeAll(x, FORMULA);
        sum += x.formula();
        typeAll(x, CLAUSES);
        sum += x.trace();
        typeAll(x, CUBES);
        sum += x.trace();
        sum += x.variables() + x.variable(0) + x.clauses() + x.clause(0) + x.steps() + x.step(0);
        sum += x.rests(0) + x.empty() + x.play(-1) + (x.won(0, 0) ? 1 : 0);
        return sum;
    }

    private static void typeAll(QuantifierProofs x, char[] text) {
        for (char c : text) {
            x.type(c);
        }
    }
}
