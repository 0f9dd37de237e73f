import java.util.LinkedHashMap;
import java.util.Map;
import java.util.Set;
import java.util.TreeSet;

/** All that an object's later calls can tell of its state, part by part. The object is used up by it. */
final class Trace {
    static final String SURFACE = "the surface";
    static final String DOINGS = "the doings";
    static final String TEXT = "the text";
    static final String SEEN = "seen";
    static final String SEED = "the seed";
    static final String SLOT_0 = "slot 0";
    static final String SLOT_1 = "slot 1";

    /** Surfaces on which ways come back from unlike squares. */
    private static final String[] PROBES = {"S51234010234", "S51023424310", "S50134223014", "S51034220143"};

    private final Map<String, String> parts = new LinkedHashMap<>();

    Trace(SquareFolds folds) {
        parts.put(SEED, String.valueOf(folds.seed(0)));
        parts.put(SURFACE, gluing(folds));
        parts.put(DOINGS, doings(folds));
        parts.put(SLOT_0, slot(folds, 0));
        parts.put(SLOT_1, slot(folds, 1));
        parts.put(TEXT, text(folds));
        parts.put(SEEN, seen(folds));
    }

    /** The parts in which the other one is not the same. */
    Set<String> changed(Trace other) {
        Set<String> names = new TreeSet<>();
        for (Map.Entry<String, String> part : parts.entrySet()) {
            if (!part.getValue().equals(other.parts.get(part.getKey()))) {
                names.add(part.getKey());
            }
        }
        return names;
    }

    static String gluing(SquareFolds folds) {
        int squares = folds.about(0);
        StringBuilder told = new StringBuilder().append(squares).append(':');
        for (int i = 0; i < squares; i++) {
            told.append(folds.go(i, 1)).append(folds.go(i, 3));
        }
        return told.toString();
    }

    /** What is undone on the way is left off: only the steps back count, not where they began. */
    private static String doings(SquareFolds folds) {
        StringBuilder told = new StringBuilder().append(folds.about(8));
        for (int left = folds.undo(); left >= 0; left = folds.undo()) {
            told.append(' ').append(left).append('=').append(gluing(folds));
        }
        return told.toString();
    }

    private static String slot(SquareFolds folds, int slot) {
        int squares = folds.again(slot);
        return squares < 0 ? String.valueOf(squares) : gluing(folds);
    }

    /** Two letters come behind it, so that a text that is not at its end tells more. */
    private static String text(SquareFolds folds) {
        StringBuilder told = new StringBuilder();
        for (int letter : new int[] {'1', '0'}) {
            told.append(folds.about(10)).append('/').append(folds.fault()).append('/');
            told.append(folds.surface() < 0 ? "" : gluing(folds)).append(' ');
            told.append(folds.write(letter)).append(' ');
        }
        return told.append(folds.surface() < 0 ? "" : gluing(folds)).toString();
    }

    private static String seen(SquareFolds folds) {
        StringBuilder told = new StringBuilder().append(folds.about(9));
        for (String probe : PROBES) {
            Due.tell(folds, probe);
            folds.surface();
            told.append(' ').append(folds.which());
        }
        return told.toString();
    }
}
