import java.math.BigInteger;
import java.util.ArrayDeque;
import java.util.ArrayList;
import java.util.Arrays;
import java.util.HashMap;
import java.util.HashSet;
import java.util.List;
import java.util.Map;
import java.util.Set;
import java.util.TreeMap;

/**
 * The document read a second time, in other ways than SquareFolds goes: arrays and sets, all orders
 * one by one, doings undone by their opposites. Slow; only there to be compared with.
 */
final class PlainFolds {
    private static final int UNKNOWN = -1, BAD = -2, LATE = -3, FULL = -4, NONE = -9;

    private final StringBuilder text = new StringBuilder();
    private int[] right = {0};
    private int[] up = {0};
    private final List<int[]> doings = new ArrayList<>();
    private final List<String> seenWays = new ArrayList<>();
    private final List<Boolean> seenBacks = new ArrayList<>();
    private final int[][] keptRight = new int[2][];
    private final int[][] keptUp = new int[2][];
    private long seed = 0;

    // ---- the surface

    int write(int letter) {
        if (letter < 0 || letter > 255) {
            return BAD;
        }
        if (text.length() == 20) {
            return FULL;
        }
        text.append((char) letter);
        return text.length();
    }

    int wipe() {
        int was = text.length();
        text.setLength(0);
        return was;
    }

    int fault() {
        for (int length = 1; length <= text.length(); length++) {
            if (!canBecome(text.substring(0, length))) {
                return length - 1;
            }
        }
        return isWhole(text.toString()) ? NONE : text.length();
    }

    private static boolean isWhole(String told) {
        return told.length() > 1 && told.length() == 2 + 2 * (told.charAt(1) - '0') && canBecome(told);
    }

    private static boolean canBecome(String told) {
        if (!told.startsWith("S")) {
            return false;
        }
        if (told.length() == 1) {
            return true;
        }
        int n = "012345".indexOf(told.charAt(1));
        if (n < 1 || told.length() > 2 + 2 * n) {
            return false;
        }
        String figures = told.substring(2);
        return isPart(figures.substring(0, Math.min(n, figures.length())), n)
            && isPart(figures.substring(Math.min(n, figures.length())), n);
    }

    private static boolean isPart(String figures, int n) {
        return figures.chars().allMatch(c -> c >= '0' && c < '0' + n)
            && figures.chars().distinct().count() == figures.length();
    }

    int surface() {
        if (fault() != NONE) {
            return LATE;
        }
        int n = text.charAt(1) - '0';
        right = new int[n];
        up = new int[n];
        for (int i = 0; i < n; i++) {
            right[i] = text.charAt(2 + i) - '0';
            up[i] = text.charAt(2 + n + i) - '0';
        }
        doings.clear();
        Arrays.fill(keptRight, null);
        Arrays.fill(keptUp, null);
        return about(1);
    }

    int about(int what) {
        switch (what) {
            case 0: return right.length;
            case 1: return unlike(pieces(allSquares(), Set.of()));
            case 2: return unlike(rings(round()));
            case 3: return (int) Arrays.stream(turnsOfCorners()).filter(t -> t == 1).count();
            case 4: return Arrays.stream(turnsOfCorners()).max().getAsInt();
            case 5: return unlike(rings(right));
            case 6: return unlike(bands());
            case 7: return group().size();
            case 8: return doings.size();
            case 9: return seenWays.size();
            case 10: return text.length();
            default: return BAD;
        }
    }

    private boolean has(int square) {
        return square >= 0 && square < right.length;
    }

    private Set<Integer> allSquares() {
        Set<Integer> all = new HashSet<>();
        for (int i = 0; i < right.length; i++) {
            all.add(i);
        }
        return all;
    }

    private static int before(int[] row, int square) {
        for (int i = 0; i < row.length; i++) {
            if (row[i] == square) {
                return i;
            }
        }
        throw new IllegalStateException();
    }

    private int moved(int square, char move) {
        return move == '1' ? right[square] : move == '2' ? before(right, square)
            : move == '3' ? up[square] : before(up, square);
    }

    private int walked(int square, String way) {
        int at = square;
        for (char move : way.toCharArray()) {
            at = moved(at, move);
        }
        return at;
    }

    private int[] round() {
        int[] row = new int[right.length];
        for (int i = 0; i < row.length; i++) {
            row[i] = walked(i, "1324");
        }
        return row;
    }

    /** For each square a mark that is the same within one ring alone. */
    private static int[] rings(int[] row) {
        int[] marks = new int[row.length];
        for (int i = 0; i < row.length; i++) {
            int least = i;
            for (int k = row[i]; k != i; k = row[k]) {
                least = Math.min(least, k);
            }
            marks[i] = least;
        }
        return marks;
    }

    private static int unlike(int[] marks) {
        return (int) Arrays.stream(marks).filter(m -> m >= 0).distinct().count();
    }

    private static int bits(int[] marks, int square) {
        int bits = 0;
        for (int i = 0; i < marks.length; i++) {
            if (marks[i] == marks[square]) {
                bits |= 1 << i;
            }
        }
        return bits;
    }

    private static void join(int[] marks, int one, int other) {
        int from = marks[one];
        int to = marks[other];
        for (int i = 0; i < marks.length; i++) {
            if (marks[i] == from) {
                marks[i] = to;
            }
        }
    }

    /** Marks of pieces of the squares that have come (-1 for others) with these right seams open. */
    private int[] pieces(Set<Integer> come, Set<Integer> open) {
        int[] marks = new int[right.length];
        for (int i = 0; i < marks.length; i++) {
            marks[i] = come.contains(i) ? i : -1;
        }
        for (int i : come) {
            if (come.contains(right[i]) && !open.contains(i)) {
                join(marks, i, right[i]);
            }
            if (come.contains(up[i])) {
                join(marks, i, up[i]);
            }
        }
        return marks;
    }

    private int[] turnsOfCorners() {
        Map<Integer, Integer> turns = new TreeMap<>();
        for (int mark : rings(round())) {
            turns.merge(mark, 1, Integer::sum);
        }
        return turns.values().stream().mapToInt(t -> t).toArray();
    }

    private int[] bands() {
        int[] rows = rings(right);
        int[] marks = rows.clone();
        int[] round = round();
        for (int i = 0; i < right.length; i++) {
            boolean all = true;
            for (int k = 0; k < right.length; k++) {
                all &= rows[k] != rows[i] || round[k] == k;
            }
            if (all) {
                join(marks, i, up[i]);
            }
        }
        return marks;
    }

    private Set<List<Integer>> group() {
        List<Integer> stay = new ArrayList<>();
        for (int i = 0; i < right.length; i++) {
            stay.add(i);
        }
        Set<List<Integer>> all = new HashSet<>(List.of(stay));
        ArrayDeque<List<Integer>> open = new ArrayDeque<>(all);
        while (!open.isEmpty()) {
            List<Integer> row = open.remove();
            for (int[] by : List.of(right, up)) {
                List<Integer> next = new ArrayList<>();
                row.forEach(i -> next.add(by[i]));
                if (all.add(next)) {
                    open.add(next);
                }
            }
        }
        return all;
    }

    int go(int square, int move) {
        return !has(square) ? UNKNOWN : move < 1 || move > 4 ? BAD : moved(square, (char) ('0' + move));
    }

    private static boolean isWay(int way) {
        return String.valueOf(way).matches("[1-4]{1,4}");
    }

    int walk(int square, int way) {
        return !has(square) ? UNKNOWN : !isWay(way) ? BAD : walked(square, String.valueOf(way));
    }

    int square(int square, int what) {
        if (!has(square)) {
            return UNKNOWN;
        }
        switch (what) {
            case 0: return bits(pieces(allSquares(), Set.of()), square);
            case 1: return round()[square];
            case 2: return Integer.bitCount(bits(rings(round()), square));
            case 3: return bits(rings(right), square);
            case 4: return bits(bands(), square);
            case 5: return holes(square);
            default: return BAD;
        }
    }

    private int holes(int square) {
        int piece = bits(pieces(allSquares(), Set.of()), square);
        Set<Integer> corners = new HashSet<>();
        int[] marks = rings(round());
        for (int i = 0; i < marks.length; i++) {
            if ((piece >> i & 1) == 1) {
                corners.add(bits(marks, i));
            }
        }
        int sum = 2 + corners.stream().mapToInt(c -> Integer.bitCount(c) - 1).sum();
        if (sum % 2 != 0) {
            throw new IllegalStateException("half a hole");
        }
        return sum / 2;
    }

    // ---- names

    private static String nameFrom(int[] right, int[] up, int square) {
        List<Integer> met = new ArrayList<>(List.of(square));
        for (int k = 0; k < met.size(); k++) {
            for (int next : new int[] {right[met.get(k)], up[met.get(k)]}) {
                if (!met.contains(next)) {
                    met.add(next);
                }
            }
        }
        StringBuilder name = new StringBuilder();
        met.forEach(i -> name.append(met.indexOf(right[i])));
        met.forEach(i -> name.append(met.indexOf(up[i])));
        return name.toString();
    }

    private static String leastName(int[] right, int[] up, int piece) {
        String least = null;
        for (int i = 0; i < right.length; i++) {
            if ((piece >> i & 1) == 1) {
                String name = nameFrom(right, up, i);
                least = least == null || name.compareTo(least) < 0 ? name : least;
            }
        }
        return least;
    }

    private String leastName(int square) {
        return leastName(right, up, square(square, 0));
    }

    long name(int square, int least) {
        if (!has(square)) {
            return UNKNOWN;
        }
        return least == 0 ? Long.parseLong(nameFrom(right, up, square))
            : least == 1 ? Long.parseLong(leastName(square)) : BAD;
    }

    private static String shearedName(String name, int how) {
        int n = name.length() / 2;
        PlainFolds folds = new PlainFolds();
        folds.right = name.substring(0, n).chars().map(c -> c - '0').toArray();
        folds.up = name.substring(n).chars().map(c -> c - '0').toArray();
        folds.act(new int[] {how, 0, 0});
        return leastName(folds.right, folds.up, (1 << n) - 1);
    }

    /** Each name of the orbit, with what the side shear makes of it. */
    private Map<String, String> orbitOf(int square) {
        Map<String, String> side = new HashMap<>();
        ArrayDeque<String> open = new ArrayDeque<>(List.of(leastName(square)));
        while (!open.isEmpty()) {
            String name = open.remove();
            if (!side.containsKey(name)) {
                side.put(name, shearedName(name, 0));
                open.add(side.get(name));
                open.add(shearedName(name, 1));
            }
        }
        return side;
    }

    int orbit(int square, int what) {
        if (!has(square)) {
            return UNKNOWN;
        }
        if (what < 0 || what > 2) {
            return BAD;
        }
        Map<String, String> side = orbitOf(square);
        int cusps = 0;
        int widest = 0;
        Set<String> met = new HashSet<>();
        for (String name : side.keySet()) {
            int size = 0;
            for (String next = name; met.add(next); next = side.get(next)) {
                size++;
            }
            cusps += size > 0 ? 1 : 0;
            widest = Math.max(widest, size);
        }
        return what == 0 ? side.size() : what == 1 ? cusps : widest;
    }

    int alike(int square, int other, int how) {
        if (!has(square) || !has(other)) {
            return UNKNOWN;
        }
        if (how != 0 && how != 1) {
            return BAD;
        }
        String name = leastName(other);
        return (how == 0 ? name.equals(leastName(square)) : orbitOf(square).containsKey(name)) ? 1 : 0;
    }

    // ---- doings

    private void act(int[] doing) {
        int n = right.length;
        int[] newRight = right.clone();
        int[] newUp = up.clone();
        for (int i = 0; i < n; i++) {
            if (doing[0] == 0) {
                newUp[i] = up[before(right, i)];
            } else if (doing[0] == 1) {
                newRight[i] = right[before(up, i)];
            } else if (doing[0] == 2) {
                newRight[i] = before(up, i);
                newUp[i] = right[i];
            } else {
                newRight[called(i, doing)] = called(right[i], doing);
                newUp[called(i, doing)] = called(up[i], doing);
            }
        }
        right = newRight;
        up = newUp;
    }

    private static int called(int square, int[] doing) {
        return square == doing[1] ? doing[2] : square == doing[2] ? doing[1] : square;
    }

    private void actBack(int[] doing) {
        // A shear comes back to itself by its own order, so the opposite is the shear again and again.
        int[] wantRight = right.clone();
        int[] wantUp = up.clone();
        for (int round = 0; round < 1000; round++) {
            int[] lastRight = right;
            int[] lastUp = up;
            act(doing);
            if (Arrays.equals(right, wantRight) && Arrays.equals(up, wantUp)) {
                right = lastRight;
                up = lastUp;
                return;
            }
        }
        throw new IllegalStateException();
    }

    private void remember(int[] doing) {
        if (doings.size() == 14) {
            doings.remove(0);
        }
        doings.add(doing);
        act(doing);
    }

    int shear(int how) {
        if (how < 0 || how > 2) {
            return BAD;
        }
        remember(new int[] {how, 0, 0});
        return about(2);
    }

    int trade(int one, int other) {
        if (!has(one) || !has(other)) {
            return UNKNOWN;
        }
        if (one == other) {
            return BAD;
        }
        remember(new int[] {3, one, other});
        return 1;
    }

    int undo() {
        if (doings.isEmpty()) {
            return LATE;
        }
        actBack(doings.remove(doings.size() - 1));
        return doings.size();
    }

    // ---- judged, shares

    private PlainFolds copy() {
        PlainFolds copy = new PlainFolds();
        copy.right = right.clone();
        copy.up = up.clone();
        return copy;
    }

    int judge(int n, long row) {
        if (n < 1 || n > 4 || row < 0) {
            return BAD;
        }
        String figures = String.valueOf(row);
        if (figures.length() > 4 * n) {
            return BAD;
        }
        figures = "0".repeat(4 * n - figures.length()) + figures;
        PlainFolds copy = copy();
        for (int k = 0; k < n; k++) {
            if (!copy.isSo(figures.substring(4 * k, 4 * k + 4))) {
                return k;
            }
        }
        return NONE;
    }

    private boolean isSo(String told) {
        int b = told.charAt(1) - '0';
        int c = told.charAt(2) - '0';
        int d = told.charAt(3) - '0';
        if (told.matches("[123]000")) {
            return shear(told.charAt(0) - '1') > 0;
        }
        if (told.matches("40..")) {
            return trade(c, d) == 1;
        }
        if (told.matches("5..0")) {
            return has(b) && has(c) && (square(b, 0) >> c & 1) == 1;
        }
        if (told.matches("600.")) {
            return about(3) >= d;
        }
        return told.matches("7.0.") && has(b) && holes(b) == d;
    }

    int share(int square, boolean upper) {
        if (!has(square)) {
            return UNKNOWN;
        }
        BigInteger sum = BigInteger.ZERO;
        List<String> orders = Due.rows(right.length);
        for (String order : orders) {
            Set<Integer> come = new HashSet<>();
            for (char c : order.toCharArray()) {
                int before = unlike(pieces(come, Set.of()));
                come.add(c - '0');
                if (c - '0' == square) {
                    sum = sum.add(BigInteger.valueOf(unlike(pieces(come, Set.of())) - before));
                }
            }
        }
        return told(sum, BigInteger.valueOf(orders.size()), upper);
    }

    private static int told(BigInteger above, BigInteger below, boolean upper) {
        BigInteger common = above.gcd(below);
        return (upper ? above : below).divide(common).intValueExact();
    }

    // ---- seen

    int see(int way, int back) {
        if (!isWay(way) || back < 0 || back > 1) {
            return BAD;
        }
        if (seenWays.size() == 6) {
            return FULL;
        }
        seenWays.add(String.valueOf(way));
        seenBacks.add(back == 1);
        return seenWays.size();
    }

    int unsee() {
        int was = seenWays.size();
        seenWays.clear();
        seenBacks.clear();
        return was;
    }

    int which() {
        int bits = 0;
        for (int i = 0; i < right.length; i++) {
            boolean so = true;
            for (int k = 0; k < seenWays.size(); k++) {
                so &= (walked(i, seenWays.get(k)) == i) == seenBacks.get(k);
            }
            bits |= so ? 1 << i : 0;
        }
        return bits;
    }

    // ---- chances

    int opens(int x, boolean upper) {
        if (x < 0 || x > 10) {
            return BAD;
        }
        return told(casesFrom(0, new HashSet<>(), BigInteger.valueOf(x)), BigInteger.TEN.pow(right.length), upper);
    }

    private BigInteger casesFrom(int seam, Set<Integer> open, BigInteger x) {
        if (seam == right.length) {
            return unlike(pieces(allSquares(), open)) == 1 ? BigInteger.ONE : BigInteger.ZERO;
        }
        BigInteger shut = casesFrom(seam + 1, open, x).multiply(BigInteger.TEN.subtract(x));
        open.add(seam);
        BigInteger opened = casesFrom(seam + 1, open, x).multiply(x);
        open.remove(seam);
        return shut.add(opened);
    }

    long seed(long v) {
        long was = seed;
        seed = v;
        return was;
    }

    int drawn(int m) {
        if (m < 1 || m > 20) {
            return BAD;
        }
        PlainFolds copy = copy();
        BigInteger n = BigInteger.valueOf(right.length);
        int sum = 0;
        for (int k = 0; k < m; k++) {
            BigInteger x = BigInteger.valueOf(seed).multiply(new BigInteger("6364136223846793005"))
                .add(new BigInteger("1442695040888963407")).mod(BigInteger.TWO.pow(64));
            seed = x.longValue();
            BigInteger top = x.shiftRight(33);
            int kind = top.mod(BigInteger.valueOf(4)).intValue();
            int one = top.divide(BigInteger.valueOf(8)).mod(n).intValue();
            int other = top.divide(BigInteger.valueOf(64)).mod(n).intValue();
            if (kind < 3 || one != other) {
                copy.act(new int[] {kind, one, other});
            }
            sum += copy.about(2) + copy.about(5) + copy.about(6);
        }
        return sum;
    }

    // ---- slots

    int keep(int slot) {
        if (slot < 0 || slot > 1) {
            return UNKNOWN;
        }
        keptRight[slot] = right.clone();
        keptUp[slot] = up.clone();
        return right.length;
    }

    int again(int slot) {
        if (slot < 0 || slot > 1) {
            return UNKNOWN;
        }
        if (keptRight[slot] == null) {
            return LATE;
        }
        right = keptRight[slot].clone();
        up = keptUp[slot].clone();
        doings.clear();
        return right.length;
    }
}
