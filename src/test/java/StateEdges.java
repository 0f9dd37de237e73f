import java.util.ArrayList;
import java.util.List;
import java.util.Set;
import java.util.TreeSet;

/** Which parts of the state each call may change: what is refused, and what is only asked, none. */
final class StateEdges {
    private static final int UNKNOWN = SquareFolds.UNKNOWN;
    private static final int BAD = SquareFolds.BAD;
    private static final int LATE = SquareFolds.LATE;
    private static final int FULL = SquareFolds.FULL;
    private static final int[] NO_NUMBERS = {Integer.MIN_VALUE, -1, 5, 6, 99, Integer.MAX_VALUE};

    private interface Call {
        long on(SquareFolds folds);
    }

    private record Asked(int promise, String told, Call call) {
    }

    private interface Maker {
        SquareFolds make();
    }

    private final Edge edge;

    StateEdges(Edge edge) {
        this.edge = edge;
    }

    void all() {
        Maker[] makers = {SquareFolds::new, StateEdges::full, StateEdges::halfFull, StateEdges::fresh};
        for (Maker maker : makers) {
            refusedChangesNothing(maker);
            askedChangesNothing(maker);
            changesItsOwnParts(maker);
        }
        refusedByState();
        fiveHundredAndTwelve();
    }

    /** Fourteen doings, six seen, both slots, twenty letters. */
    private static SquareFolds full() {
        SquareFolds folds = Due.surface("S412301302");
        for (int k = 0; k < 16; k++) {
            if (k % 4 == 3) {
                folds.trade(k % 3, 3);
            } else {
                folds.shear(k % 3);
            }
            if (k == 5 || k == 10) {
                folds.keep(k / 10);
            }
        }
        for (int way : new int[] {1, 13, 1324, 32, 4444, 11}) {
            folds.see(way, way % 2);
        }
        folds.seed(Long.MIN_VALUE + 7);
        Due.tell(folds, "S5123401023401234567");
        return folds;
    }

    /** Some of all, one slot, a text that is not at its end. */
    private static SquareFolds halfFull() {
        SquareFolds folds = Due.surface("S3102210");
        folds.shear(0);
        folds.keep(0);
        folds.shear(1);
        folds.trade(0, 2);
        folds.see(13, 0);
        folds.see(3, 1);
        folds.seed(77);
        Due.tell(folds, "S31022");
        return folds;
    }

    /** Five squares in pieces, nothing done, another whole text. */
    private static SquareFolds fresh() {
        SquareFolds folds = Due.surface("S51023401324");
        Due.tell(folds, "S20110");
        return folds;
    }

    private static Set<String> changedBy(Maker maker, Call call) {
        SquareFolds folds = maker.make();
        call.on(folds);
        return new Trace(maker.make()).changed(new Trace(folds));
    }

    private static void add(List<Asked> calls, int promise, String told, Call call) {
        calls.add(new Asked(promise, told, call));
    }

    // ---- refused

    private void refused(Maker maker, List<Asked> calls, int refusal) {
        for (Asked asked : calls) {
            edge.of(asked.promise, "What is refused changes nothing.");
            edge.refuses(asked.told, asked.call.on(maker.make()), refusal);
            edge.is(asked.told + " changes " + changedBy(maker, asked.call), changedBy(maker, asked.call).size(), 0);
        }
    }

    private void refusedChangesNothing(Maker maker) {
        refused(maker, unknownCalls(), UNKNOWN);
        refused(maker, badCalls(), BAD);
    }

    private static List<Asked> unknownCalls() {
        List<Asked> calls = new ArrayList<>();
        for (int no : NO_NUMBERS) {
            add(calls, 7, "go(" + no + ", 1)", f -> f.go(no, 1));
            add(calls, 7, "go(" + no + ", " + no + ")", f -> f.go(no, no));
            add(calls, 8, "walk(" + no + ", 1)", f -> f.walk(no, 1));
            add(calls, 8, "walk(" + no + ", 0)", f -> f.walk(no, 0));
            add(calls, 9, "square(" + no + ", 0)", f -> f.square(no, 0));
            add(calls, 9, "square(" + no + ", -1)", f -> f.square(no, -1));
            add(calls, 10, "name(" + no + ", 0)", f -> f.name(no, 0));
            add(calls, 10, "name(" + no + ", -1)", f -> f.name(no, -1));
            add(calls, 12, "trade(" + no + ", 0)", f -> f.trade(no, 0));
            add(calls, 12, "trade(0, " + no + ")", f -> f.trade(0, no));
            add(calls, 12, "trade(" + no + ", " + no + ")", f -> f.trade(no, no));
            add(calls, 14, "orbit(" + no + ", 0)", f -> f.orbit(no, 0));
            add(calls, 14, "orbit(" + no + ", 3)", f -> f.orbit(no, 3));
            add(calls, 15, "alike(" + no + ", 0, 1)", f -> f.alike(no, 0, 1));
            add(calls, 15, "alike(0, " + no + ", 1)", f -> f.alike(0, no, 1));
            add(calls, 15, "alike(0, " + no + ", 2)", f -> f.alike(0, no, 2));
            add(calls, 17, "share(" + no + ", true)", f -> f.share(no, true));
            add(calls, 24, "keep(" + no + ")", f -> f.keep(no));
            add(calls, 25, "again(" + no + ")", f -> f.again(no));
        }
        add(calls, 24, "keep(2)", f -> f.keep(2));
        add(calls, 25, "again(2)", f -> f.again(2));
        return calls;
    }

    private static List<Asked> badCalls() {
        List<Asked> calls = new ArrayList<>();
        for (int no : NO_NUMBERS) {
            int letter = no > 0 ? no + 256 : no;
            add(calls, 2, "write(" + letter + ")", f -> f.write(letter));
            int what = no > 0 ? no | 16 : no;
            add(calls, 6, "about(" + what + ")", f -> f.about(what));
            add(calls, 7, "go(0, " + no + ")", f -> f.go(0, no));
            add(calls, 8, "walk(0, " + no + ")", f -> f.walk(0, no));
            add(calls, 9, "square(0, " + what + ")", f -> f.square(0, what));
            add(calls, 10, "name(0, " + no + ")", f -> f.name(0, no));
            add(calls, 11, "shear(" + no + ")", f -> f.shear(no));
            add(calls, 14, "orbit(0, " + no + ")", f -> f.orbit(0, no));
            add(calls, 15, "alike(0, 0, " + no + ")", f -> f.alike(0, 0, no));
            add(calls, 16, "judge(" + no + ", 1000)", f -> f.judge(no, 1000));
            add(calls, 18, "see(" + no + ", 1)", f -> f.see(no, 1));
            add(calls, 18, "see(1, " + no + ")", f -> f.see(1, no));
            int x = no > 0 ? no | 32 : no;
            add(calls, 21, "opens(" + x + ", true)", f -> f.opens(x, true));
            add(calls, 23, "drawn(" + x + ")", f -> f.drawn(x));
        }
        add(calls, 11, "shear(3)", f -> f.shear(3));
        add(calls, 12, "trade(0, 0)", f -> f.trade(0, 0));
        add(calls, 16, "judge(1, 10000)", f -> f.judge(1, 10000));
        add(calls, 16, "judge(4, -1)", f -> f.judge(4, -1));
        add(calls, 18, "see(5, 1)", f -> f.see(5, 1));
        add(calls, 18, "see(1, 2)", f -> f.see(1, 2));
        add(calls, 21, "opens(11, false)", f -> f.opens(11, false));
        add(calls, 23, "drawn(0)", f -> f.drawn(0));
        add(calls, 23, "drawn(21)", f -> f.drawn(21));
        return calls;
    }

    /** Refusals that hang on what the object holds. */
    private void refusedByState() {
        List<Asked> calls = new ArrayList<>();
        add(calls, 2, "write('S') behind twenty", f -> f.write('S'));
        add(calls, 18, "see(3, 0) behind six", f -> f.see(3, 0));
        refused(StateEdges::full, calls, FULL);
        calls.clear();
        add(calls, 5, "surface() of too many letters", SquareFolds::surface);
        refused(StateEdges::full, calls, LATE);
        calls.clear();
        add(calls, 5, "surface() of too few letters", SquareFolds::surface);
        add(calls, 25, "again(1), where none was kept", f -> f.again(1));
        refused(StateEdges::halfFull, calls, LATE);
        calls.clear();
        add(calls, 13, "undo() of nothing", SquareFolds::undo);
        add(calls, 25, "again(0), where none was kept", f -> f.again(0));
        refused(StateEdges::fresh, calls, LATE);
        add(calls, 5, "surface() of no text", SquareFolds::surface);
        refused(SquareFolds::new, calls, LATE);
    }

    // ---- asked

    private void askedChangesNothing(Maker maker) {
        for (Asked asked : questions()) {
            edge.of(asked.promise, "In what follows nothing is changed.");
            edge.is(asked.told + " changes " + changedBy(maker, asked.call), changedBy(maker, asked.call).size(), 0);
        }
    }

    private static List<Asked> questions() {
        List<Asked> calls = new ArrayList<>();
        add(calls, 4, "fault()", SquareFolds::fault);
        for (int what = 0; what <= 10; what++) {
            int about = what;
            add(calls, 6, "about(" + about + ")", f -> f.about(about));
        }
        for (int what = 0; what <= 5; what++) {
            int square = what;
            add(calls, 9, "square(0, " + square + ")", f -> f.square(0, square));
        }
        add(calls, 7, "go(0, 4)", f -> f.go(0, 4));
        add(calls, 8, "walk(0, 4132)", f -> f.walk(0, 4132));
        add(calls, 10, "name(0, 0)", f -> f.name(0, 0));
        add(calls, 10, "name(0, 1)", f -> f.name(0, 1));
        add(calls, 14, "orbit(0, 0)", f -> f.orbit(0, 0));
        add(calls, 14, "orbit(0, 1)", f -> f.orbit(0, 1));
        add(calls, 14, "orbit(0, 2)", f -> f.orbit(0, 2));
        add(calls, 15, "alike(0, 0, 0)", f -> f.alike(0, 0, 0));
        add(calls, 15, "alike(0, 0, 1)", f -> f.alike(0, 0, 1));
        add(calls, 16, "judge(4, shears and a trade)", f -> f.judge(4, 1000200030004001L));
        add(calls, 16, "judge(2, one that can not be)", f -> f.judge(2, 30009000L));
        add(calls, 17, "share(0, true)", f -> f.share(0, true));
        add(calls, 20, "which()", SquareFolds::which);
        add(calls, 21, "opens(3, true)", f -> f.opens(3, true));
        return calls;
    }

    // ---- changing

    private void changes(Maker maker, int promise, String sentence, Call call, String... parts) {
        edge.of(promise, sentence);
        Set<String> others = new TreeSet<>(changedBy(maker, call));
        others.removeAll(Set.of(parts));
        edge.is("it changes besides " + others, others.size(), 0);
    }

    private void changesItsOwnParts(Maker maker) {
        changes(maker, 2, "A letter (0 .. 255) comes behind THE TEXT: how long it is.", f -> f.write('2'), Trace.TEXT);
        changes(maker, 3, "THE TEXT is empty: how long it was.", SquareFolds::wipe, Trace.TEXT);
        changes(maker, 5, "(THE TEXT itself stays; no DOINGS; what was kept is gone; SEEN, THE SEED stay)",
            SquareFolds::surface, Trace.SURFACE, Trace.DOINGS, Trace.SLOT_0, Trace.SLOT_1);
        for (int how = 0; how <= 2; how++) {
            int doing = how;
            changes(maker, 11, "SIDE (how = 0), UPWARD (1), QUARTER (2): CORNERS then. BAD: how.",
                f -> f.shear(doing), Trace.SURFACE, Trace.DOINGS);
        }
        changes(maker, 12, "TRADED: 1. UNKNOWN: both; BAD: it is one.", f -> f.trade(0, 1), Trace.SURFACE, Trace.DOINGS);
        changes(maker, 13, "The last DOING is undone: how many are left.", SquareFolds::undo, Trace.SURFACE, Trace.DOINGS);
        changes(maker, 18, "SEEN: how many there are.", f -> f.see(11, 0), Trace.SEEN);
        changes(maker, 19, "Nothing is SEEN: how much there was.", SquareFolds::unsee, Trace.SEEN);
        changes(maker, 22, "THE SEED is v: what it was.", f -> f.seed(-99), Trace.SEED);
        changes(maker, 23, "(Nothing changes but THE SEED.)", f -> f.drawn(20), Trace.SEED);
        changes(maker, 24, "They are kept: how many SQUARES. UNKNOWN.", f -> f.keep(0), Trace.SLOT_0);
        changes(maker, 24, "They are kept: how many SQUARES. UNKNOWN.", f -> f.keep(1), Trace.SLOT_1);
        changes(maker, 25, "They are as they were kept: how many SQUARES.", f -> f.again(0), Trace.SURFACE, Trace.DOINGS);
        changes(maker, 25, "They are as they were kept: how many SQUARES.", f -> f.again(1), Trace.SURFACE, Trace.DOINGS);
    }

    /** The last call of an object is answered as the first one is. */
    private void fiveHundredAndTwelve() {
        edge.of(1, "An object is used for at most 512 calls after it has been made");
        SquareFolds folds = Due.surface("S51234010234");
        int calls = 14;
        for (; calls < 511; calls++) {
            folds.shear(0);
        }
        // 497 shears of a row of five are two.
        edge.is("the 512th", folds.name(0, 0), sheared(497 % 5).name(0, 0));
        SquareFolds drawn = new SquareFolds();
        for (calls = 0; calls < 511; calls++) {
            drawn.drawn(20);
        }
        edge.is("the 512th drawn", drawn.drawn(20), 60);
    }

    private static SquareFolds sheared(int times) {
        SquareFolds folds = Due.surface("S51234010234");
        for (int k = 0; k < times; k++) {
            folds.shear(0);
        }
        return folds;
    }
}
