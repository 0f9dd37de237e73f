import java.lang.management.ManagementFactory;
import java.lang.reflect.Array;
import java.lang.reflect.Field;
import java.lang.reflect.Modifier;
import java.util.IdentityHashMap;
import java.util.Map;

/** All calls of a run live in one room: an object is small, and its calls make nothing. */
public final class RoomTest {
    /** So many that an object is not called more than 512 times, with the 14 calls that make its surface. */
    private static final int ROUNDS = 17;

    private static final Due DUE = new Due();
    private static final Map<Object, Boolean> MET = new IdentityHashMap<>();
    private static long parts = 0;

    public static void main(String[] args) throws IllegalAccessException {
        count(new SquareFolds());
        DUE.holds("objects and arrays of one object: " + MET.size(), MET.size() <= 40);
        DUE.holds("fields and elements of one object: " + parts, parts <= 800);
        SquareFolds warm = Due.surface("S51234010234");
        dearest(warm);
        SquareFolds folds = Due.surface("S51234010234");
        com.sun.management.ThreadMXBean threads = (com.sun.management.ThreadMXBean) ManagementFactory.getThreadMXBean();
        threads.getCurrentThreadAllocatedBytes();
        long before = threads.getCurrentThreadAllocatedBytes();
        int calls = dearest(folds);
        long made = threads.getCurrentThreadAllocatedBytes() - before;
        DUE.holds("bytes that " + calls + " calls made: " + made, made < calls);
        DUE.end();
    }

    private static void count(Object object) throws IllegalAccessException {
        if (object == null || MET.put(object, true) != null) {
            return;
        }
        if (object.getClass().isArray()) {
            int length = Array.getLength(object);
            parts += length;
            for (int i = 0; i < length && !object.getClass().getComponentType().isPrimitive(); i++) {
                count(Array.get(object, i));
            }
            return;
        }
        for (Field field : object.getClass().getDeclaredFields()) {
            if (!Modifier.isStatic(field.getModifiers())) {
                parts++;
                field.setAccessible(true);
                if (!field.getType().isPrimitive()) {
                    count(field.get(object));
                }
            }
        }
    }

    /** Each call once a round, with what is dearest for it. */
    private static int dearest(SquareFolds folds) {
        int calls = 0;
        for (int round = 0; round < ROUNDS; round++) {
            folds.wipe();
            folds.write('S');
            folds.fault();
            folds.surface();
            folds.about(6);
            folds.about(7);
            folds.go(4, 4);
            folds.walk(4, 4321);
            folds.square(3, 4);
            folds.square(3, 5);
            folds.name(2, 0);
            folds.name(2, 1);
            folds.keep(1);
            folds.shear(round % 3);
            folds.trade(1, 4);
            folds.undo();
            folds.orbit(0, 1);
            folds.orbit(0, 2);
            folds.alike(0, 4, 1);
            folds.judge(4, 1000200030007002L);
            folds.share(3, true);
            folds.see(1324, 0);
            folds.which();
            folds.unsee();
            folds.opens(3, false);
            folds.seed(round);
            folds.drawn(20);
            folds.again(1);
            calls += 28;
        }
        return calls;
    }
}
