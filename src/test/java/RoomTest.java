import java.lang.management.ManagementFactory;
import java.lang.reflect.Array;
import java.lang.reflect.Field;
import java.lang.reflect.Modifier;
import java.util.IdentityHashMap;
import java.util.Map;

/** All calls of a run live in one room: an object is small, and its calls make nothing. */
public final class RoomTest {
    private static final int CALLS = 512;

    private static final Due DUE = new Due();
    private static final Map<Object, Boolean> MET = new IdentityHashMap<>();
    private static long parts = 0;

    public static void main(String[] args) throws IllegalAccessException {
        count(new SquareFolds());
        DUE.holds("objects and arrays of one object: " + MET.size(), MET.size() <= 40);
        DUE.holds("fields and elements of one object: " + parts, parts <= 800);
        SquareFolds warm = Due.surface("S51234010234");
        dearest(warm);
        SquareFolds folds = Due.surface("S51234010234");
        com.sun.management.ThreadMXBean threads = (com.sun.management.ThreadMXBean) ManagementFactory.getThreadMXBean();
        threads.getCurrentThreadAllocatedBytes();
        long before = threads.getCurrentThreadAllocatedBytes();
        dearest(folds);
        long made = threads.getCurrentThreadAllocatedBytes() - before;
        DUE.holds("bytes that " + CALLS + " calls made: " + made, made < CALLS);
        DUE.end();
    }

    private static void count(Object object) throws IllegalAccessException {
        if (object == null || MET.put(object, true) != null) {
            return;
        }
        if (object.getClass().isArray()) {
            int length = Array.getLength(object);
            parts += length;
            for (int i = 0; i < length && !object.getClass().getComponentType().isPrimitive(); i++) {
                count(Array.get(object, i));
            }
            return;
        }
        for (Field field : object.getClass().getDeclaredFields()) {
            if (!Modifier.isStatic(field.getModifiers())) {
                parts++;
                field.setAccessible(true);
                if (!field.getType().isPrimitive()) {
                    count(field.get(object));
                }
            }
        }
    }

    private static void dearest(SquareFolds folds) {
        for (int call = 0; call < CALLS; call++) {
            switch (call % 24) {
                case 0: folds.write('S'); break;
                case 1: folds.fault(); break;
                case 2: folds.surface(); break;
                case 3: folds.about(6); break;
                case 4: folds.about(7); break;
                case 5: folds.go(4, 4); break;
                case 6: folds.walk(4, 4321); break;
                case 7: folds.square(3, 4); break;
                case 8: folds.square(3, 5); break;
                case 9: folds.name(2, 0); break;
                case 10: folds.name(2, 1); break;
                case 11: folds.shear(call % 3); break;
                case 12: folds.trade(1, 4); break;
                case 13: folds.orbit(0, 1); break;
                case 14: folds.orbit(0, 2); break;
                case 15: folds.alike(0, 4, 1); break;
                case 16: folds.judge(4, 1000200030007002L); break;
                case 17: folds.share(3, true); break;
                case 18: folds.see(1324, 0); break;
                case 19: folds.which(); break;
                case 20: folds.opens(3, false); break;
                case 21: folds.drawn(20); break;
                case 22: folds.keep(1); break;
                default: folds.again(1); folds.undo(); folds.unsee(); folds.wipe(); break;
            }
        }
    }
}
