import java.util.List;
import java.util.Random;

/** SquareFolds beside PlainFolds: on every surface there is, and in runs of calls of all kinds. */
public final class PlainModelTest {
    private static final int RUNS = 450;
    /** What an object answers behind so many calls is free. */
    private static final int CALLS = 512;
    private static final int[] ODD = {Integer.MIN_VALUE, -9, -2, -1, 5, 6, 7, 10, 11, 31, 32, 33, 64, 255, 256, 1000, Integer.MAX_VALUE};

    private final Due due = new Due();
    private SquareFolds folds;
    private PlainFolds plain;
    private String at;
    private int calls;

    public static void main(String[] args) {
        PlainModelTest test = new PlainModelTest();
        for (int n = 1; n <= 5; n++) {
            test.allSurfaces(n);
        }
        Random chance = new Random(20261118);
        for (int run = 0; run < RUNS; run++) {
            test.run(chance, run);
        }
        test.due.end();
    }

    private void anew(String where) {
        folds = new SquareFolds();
        plain = new PlainFolds();
        at = where;
        calls = 0;
    }

    private void allSurfaces(int n) {
        List<String> rows = Due.rows(n);
        int count = 0;
        for (String right : rows) {
            for (String up : rows) {
                String text = "S" + n + right + up;
                anew(text + ": ");
                letters(text);
                is("surface()", folds.surface(), plain.surface());
                count++;
                everything(n, count);
            }
        }
    }

    private void letters(String text) {
        is("wipe()", folds.wipe(), plain.wipe());
        for (char c : text.toCharArray()) {
            is("write(" + (int) c + ")", folds.write(c), plain.write(c));
        }
    }

    private void everything(int n, int salt) {
        for (int what = 0; what <= 11; what++) {
            is("about(" + what + ")", folds.about(what), plain.about(what));
        }
        for (int i = 0; i < n; i++) {
            for (int what = 0; what <= 5; what++) {
                is("square(" + i + ", " + what + ")", folds.square(i, what), plain.square(i, what));
            }
            is("name(" + i + ", 0)", folds.name(i, 0), plain.name(i, 0));
            is("name(" + i + ", 1)", folds.name(i, 1), plain.name(i, 1));
        }
        int i = salt % n;
        int k = salt / n % n;
        for (int what = 0; what <= 2; what++) {
            is("orbit(" + i + ", " + what + ")", folds.orbit(i, what), plain.orbit(i, what));
        }
        is("alike(" + i + ", " + k + ", 0)", folds.alike(i, k, 0), plain.alike(i, k, 0));
        is("alike(" + i + ", " + k + ", 1)", folds.alike(i, k, 1), plain.alike(i, k, 1));
        is("share(" + i + ", true)", folds.share(i, true), plain.share(i, true));
        is("share(" + i + ", false)", folds.share(i, false), plain.share(i, false));
        int x = salt % 11;
        is("opens(" + x + ", true)", folds.opens(x, true), plain.opens(x, true));
        is("opens(" + x + ", false)", folds.opens(x, false), plain.opens(x, false));
        is("seed", folds.seed(salt), plain.seed(salt));
        is("drawn(20)", folds.drawn(20), plain.drawn(20));
        is("shear", folds.shear(salt % 3), plain.shear(salt % 3));
        is("name(0, 0)", folds.name(0, 0), plain.name(0, 0));
        is("undo()", folds.undo(), plain.undo());
        is("name(0, 0)", folds.name(0, 0), plain.name(0, 0));
    }

    private void is(String call, long got, long want) {
        calls++;
        due.is(at + call, got, want);
    }

    private void run(Random chance, int run) {
        anew("run " + run + ": ");
        while (calls < CALLS) {
            at = "run " + run + ", behind " + calls + " calls: ";
            String text = someText(chance);
            if (chance.nextInt(60) == 0 && calls + text.length() + 2 <= CALLS) {
                letters(text);
                is("surface()", folds.surface(), plain.surface());
            } else if (chance.nextBoolean()) {
                asked(chance);
            } else {
                changed(chance);
            }
        }
    }

    private static String someText(Random chance) {
        int n = 1 + chance.nextInt(5);
        List<String> rows = Due.rows(n);
        StringBuilder text = new StringBuilder("S").append(n);
        text.append(rows.get(chance.nextInt(rows.size()))).append(rows.get(chance.nextInt(rows.size())));
        if (chance.nextInt(3) == 0) {
            text.setCharAt(chance.nextInt(text.length()), (char) (chance.nextInt(4) == 0 ? chance.nextInt(256) : '0' + chance.nextInt(7)));
        }
        if (chance.nextInt(5) == 0) {
            text.setLength(chance.nextInt(text.length() + 1));
        }
        if (chance.nextInt(6) == 0) {
            text.append("0".repeat(1 + chance.nextInt(6)));
        }
        return text.toString();
    }

    private static int some(Random chance, int below) {
        return chance.nextInt(25) == 0 ? ODD[chance.nextInt(ODD.length)] : chance.nextInt(below);
    }

    private static int someWay(Random chance) {
        int way = 0;
        for (int length = 1 + chance.nextInt(4); length > 0; length--) {
            way = way * 10 + 1 + chance.nextInt(4);
        }
        return chance.nextInt(15) == 0 ? some(chance, 50000) : way;
    }

    private static long someTold(Random chance, int n) {
        long row = 0;
        for (int k = 0; k < n; k++) {
            String form = new String[] {"1000", "2000", "3000", "40ss", "5ss0", "600s", "7s0s", "7s0v", "xxxx"}[chance.nextInt(9)];
            for (char c : form.toCharArray()) {
                int figure = c == 's' ? chance.nextInt(5) : c == 'v' ? 1 + chance.nextInt(3) : c == 'x' ? chance.nextInt(10) : c - '0';
                row = row * 10 + (chance.nextInt(80) == 0 ? chance.nextInt(10) : figure);
            }
        }
        return chance.nextInt(20) == 0 ? chance.nextLong() : row;
    }

    private void asked(Random chance) {
        int a = some(chance, 5);
        int b = some(chance, 5);
        int c = some(chance, 12);
        boolean upper = chance.nextBoolean();
        switch (chance.nextInt(12)) {
            case 0: is("fault()", folds.fault(), plain.fault()); break;
            case 1: is("about(" + c + ")", folds.about(c), plain.about(c)); break;
            case 2: is("go(" + a + ", " + b + ")", folds.go(a, b), plain.go(a, b)); break;
            case 3: {
                int way = someWay(chance);
                is("walk(" + a + ", " + way + ")", folds.walk(a, way), plain.walk(a, way));
                break;
            }
            case 4: is("square(" + a + ", " + c + ")", folds.square(a, c), plain.square(a, c)); break;
            case 5: is("name(" + a + ", " + b % 3 + ")", folds.name(a, b % 3), plain.name(a, b % 3)); break;
            case 6: is("orbit(" + a + ", " + b + ")", folds.orbit(a, b), plain.orbit(a, b)); break;
            case 7: is("alike(" + a + ", " + b + ", " + c % 3 + ")", folds.alike(a, b, c % 3), plain.alike(a, b, c % 3)); break;
            case 8: {
                int n = 1 + some(chance, 4);
                long row = someTold(chance, Math.floorMod(n, 5));
                is("judge(" + n + ", " + row + ")", folds.judge(n, row), plain.judge(n, row));
                break;
            }
            case 9: is("share(" + a + ", " + upper + ")", folds.share(a, upper), plain.share(a, upper)); break;
            case 10: is("which()", folds.which(), plain.which()); break;
            default: is("opens(" + c + ", " + upper + ")", folds.opens(c, upper), plain.opens(c, upper)); break;
        }
    }

    private void changed(Random chance) {
        int a = some(chance, 5);
        int b = some(chance, 5);
        switch (chance.nextInt(11)) {
            case 0: {
                int letter = some(chance, 60);
                is("write(" + letter + ")", folds.write(letter), plain.write(letter));
                break;
            }
            case 1: case 2: case 3: is("shear(" + a + ")", folds.shear(a), plain.shear(a)); break;
            case 4: case 5: is("trade(" + a + ", " + b + ")", folds.trade(a, b), plain.trade(a, b)); break;
            case 6: is("undo()", folds.undo(), plain.undo()); break;
            case 7: {
                int way = someWay(chance);
                int back = some(chance, 2);
                is("see(" + way + ", " + back + ")", folds.see(way, back), plain.see(way, back));
                break;
            }
            case 8: rarely(chance); break;
            case 9: {
                int m = some(chance, 23);
                is("drawn(" + m + ")", folds.drawn(m), plain.drawn(m));
                break;
            }
            default: {
                int slot = some(chance, 2);
                if (chance.nextBoolean()) {
                    is("keep(" + slot + ")", folds.keep(slot), plain.keep(slot));
                } else {
                    is("again(" + slot + ")", folds.again(slot), plain.again(slot));
                }
            }
        }
    }

    private void rarely(Random chance) {
        switch (chance.nextInt(4)) {
            case 0: is("unsee()", folds.unsee(), plain.unsee()); break;
            case 1: {
                long v = chance.nextBoolean() ? chance.nextLong() : chance.nextInt(5) - 2;
                is("seed(" + v + ")", folds.seed(v), plain.seed(v));
                break;
            }
            case 2: is("surface()", folds.surface(), plain.surface()); break;
            default: is("wipe()", folds.wipe(), plain.wipe()); break;
        }
    }
}
