/** Each promise by its number: ordinary calls, the edges that the document names, wrong calls. */
public final class PromisesTest {
    private static final int UNKNOWN = SquareFolds.UNKNOWN;
    private static final int BAD = SquareFolds.BAD;
    private static final int LATE = SquareFolds.LATE;
    private static final int FULL = SquareFolds.FULL;
    private static final int NONE = SquareFolds.NONE;
    private static final int LEAST = Integer.MIN_VALUE;
    private static final int MOST = Integer.MAX_VALUE;

    /** Three squares as an L: 0, to its right 1, above it 2; one corner of three turns. */
    private static final String ELL = "S3102210";
    /** Two by two squares, each row and each column running into itself: all corners are ordinary. */
    private static final String FOUR = "S410322301";
    /** Five squares, each glued to itself. */
    private static final String APART = "S50123401234";
    /** Five squares in a row, of which 0 and 1 lie above one another. */
    private static final String LONG = "S51234010234";
    /** A piece of a row of two, one of a column of two, one of a single square. */
    private static final String THREE = "S51023401324";

    private static final Due DUE = new Due();

    public static void main(String[] args) {
        constants();
        promise1();
        promise2();
        promise3();
        promise4();
        promise5();
        promise5LeavesWhatItRefuses();
        promise6();
        promise7();
        promise8();
        promise9();
        promise10();
        promise11();
        promise12();
        promise13();
        promise14();
        promise15();
        promise16();
        promise16Refusals();
        promise17();
        promise18();
        promise19();
        promise20();
        promise21();
        promise22();
        promise23();
        promise24And25();
        DUE.end();
    }

    private static void is(String call, long got, long want) {
        DUE.is(call, got, want);
    }

    private static void faultOf(String text, int want) {
        SquareFolds folds = new SquareFolds();
        Due.tell(folds, text);
        is("fault() of " + text, folds.fault(), want);
        is("surface() of " + text, folds.surface() == LATE ? 1 : 0, want == NONE ? 0 : 1);
    }

    private static void constants() {
        is("UNKNOWN", UNKNOWN, -1);
        is("BAD", BAD, -2);
        is("LATE", LATE, -3);
        is("FULL", FULL, -4);
        is("NONE", NONE, -9);
    }

    private static void promise1() {
        SquareFolds folds = new SquareFolds();
        int[] about = {1, 1, 1, 1, 1, 1, 1, 1, 0, 0, 0, BAD};
        for (int what = 0; what < about.length; what++) {
            is("1: about " + what, folds.about(what), about[what]);
        }
        for (int move = 1; move <= 4; move++) {
            is("1: go " + move, folds.go(0, move), 0);
        }
        int[] square = {1, 0, 1, 1, 1, 1};
        for (int what = 0; what < square.length; what++) {
            is("1: square " + what, folds.square(0, what), square[what]);
        }
        is("1: fault", folds.fault(), 0);
        is("1: undo", folds.undo(), LATE);
        is("1: which", folds.which(), 1);
        is("1: again 0", folds.again(0), LATE);
        is("1: again 1", folds.again(1), LATE);
        is("1: seed", folds.seed(0), 0);
    }

    private static void promise2() {
        SquareFolds folds = new SquareFolds();
        is("2: 0", folds.write(0), 1);
        is("2: 255", folds.write(255), 2);
        for (int letter : new int[] {-1, 256, LEAST, MOST}) {
            is("2: " + letter, folds.write(letter), BAD);
        }
        is("2: length", folds.about(10), 2);
        for (int k = 3; k <= 20; k++) {
            is("2: letter " + k, folds.write('a'), k);
        }
        is("2: the 21st", folds.write('a'), FULL);
        is("2: BAD is told ahead of FULL", folds.write(256), BAD);
        is("2: length when full", folds.about(10), 20);
        is("2: wiped", folds.wipe(), 20);
        is("2: again", folds.write('S'), 1);
        is("2: it is the letter", folds.fault(), 1);
    }

    private static void promise3() {
        SquareFolds folds = Due.surface(ELL);
        is("3: wipe", folds.wipe(), 8);
        is("3: wipe of nothing", folds.wipe(), 0);
        is("3: length", folds.about(10), 0);
        is("3: the surface stays", folds.about(0), 3);
        is("3: no text", folds.surface(), LATE);
    }

    private static void promise4() {
        faultOf("", 0);
        faultOf("s", 0);
        faultOf("R3102210", 0);
        faultOf("S", 1);
        faultOf("S0", 1);
        faultOf("S6", 1);
        faultOf("S:", 1);
        faultOf("S/", 1);
        faultOf("SS", 1);
        faultOf("S" + (char) 3, 1);
        faultOf("S1", 2);
        faultOf("S11", 2);
        faultOf("S10", 3);
        faultOf("S100", NONE);
        faultOf("S1000", 4);
        faultOf("S101", 3);
        faultOf("S2011", 5);
        faultOf("S200", 3);
        faultOf("S20110", NONE);
        faultOf("S2011 ", 5);
        faultOf("S3102", 5);
        faultOf("S31022", 6);
        faultOf("S310221", 7);
        faultOf("S3102211", 7);
        faultOf("S3112210", 3);
        faultOf("S3010", 4);
        faultOf("S3121", 4);
        faultOf("S30120120", 8);
        faultOf("S3012020", 7);
        faultOf("S3130210", 3);
        faultOf("S310/210", 4);
        faultOf(ELL, NONE);
        faultOf(ELL + "x", 8);
        faultOf(ELL + "0123", 8);
        faultOf("S5432104321", 11);
        faultOf("S54321043210", NONE);
        faultOf("S54321043215", 11);
        faultOf("S5432104321001234567", 12);
    }

    private static void promise5() {
        SquareFolds folds = Due.surface(ELL);
        folds.shear(0);
        folds.keep(0);
        folds.keep(1);
        folds.see(13, 1);
        folds.seed(77);
        Due.tell(folds, FOUR);
        is("5: told but not yet THE SURFACE", folds.about(0), 3);
        is("5: one piece", folds.surface(), 1);
        is("5: squares", folds.about(0), 4);
        is("5: no doings", folds.about(8), 0);
        is("5: nothing to undo", folds.undo(), LATE);
        is("5: slot 0 is gone", folds.again(0), LATE);
        is("5: slot 1 is gone", folds.again(1), LATE);
        is("5: seen stays", folds.about(9), 1);
        is("5: the text stays", folds.about(10), 10);
        is("5: the seed stays", folds.seed(0), 77);
        folds.shear(0);
        is("5: the same text again", folds.surface(), 1);
        is("5: it is as told", folds.name(0, 0), 10322301);
        Due.tell(folds, APART);
        is("5: five pieces", folds.surface(), 5);
        Due.tell(folds, THREE);
        is("5: three pieces", folds.surface(), 3);
        Due.tell(folds, "S100");
        is("5: one square", folds.surface(), 1);
        is("5: squares then", folds.about(0), 1);
    }

    private static void promise5LeavesWhatItRefuses() {
        SquareFolds folds = Due.surface(ELL);
        folds.shear(0);
        folds.keep(1);
        Due.tell(folds, "S41032230");
        is("5: not at its end", folds.surface(), LATE);
        is("5: refused, the squares stay", folds.about(0), 3);
        is("5: refused, the doings stay", folds.about(8), 1);
        is("5: refused, what was kept stays", folds.again(1), 3);
    }

    private static void aboutOf(String text, int... want) {
        SquareFolds folds = Due.surface(text);
        for (int what = 0; what < want.length; what++) {
            is("6: about " + what + " of " + text, folds.about(what), want[what]);
        }
    }

    private static void promise6() {
        aboutOf(ELL, 3, 1, 1, 0, 3, 2, 2, 6, 0, 0, 8);
        aboutOf(FOUR, 4, 1, 4, 4, 1, 2, 1, 4, 0, 0, 10);
        aboutOf(APART, 5, 5, 5, 5, 1, 5, 5, 1, 0, 0, 12);
        aboutOf(LONG, 5, 1, 3, 2, 3, 1, 1, 120, 0, 0, 12);
        aboutOf(THREE, 5, 3, 5, 5, 1, 4, 3, 4, 0, 0, 12);
        aboutOf("S50123412340", 5, 1, 5, 5, 1, 5, 1, 5, 0, 0, 12);
        // Of an L of four squares the column's upper two rows are one band.
        aboutOf("S410232130", 4, 1, 2, 1, 3, 3, 2, 24, 0, 0, 10);
        aboutOf("S20110", 2, 1, 2, 2, 1, 2, 1, 2, 0, 0, 6);
        // Rows 0 1 and 2 3, of which no corner is ordinary, are two bands.
        aboutOf("S410322013", 4, 1, 2, 0, 2, 2, 2, 12, 0, 0, 10);
        SquareFolds folds = Due.surface(ELL);
        is("6: group once", folds.about(7), 6);
        is("6: group twice", folds.about(7), 6);
        folds.shear(0);
        folds.trade(0, 1);
        folds.see(1, 1);
        is("6: doings", folds.about(8), 2);
        is("6: seen", folds.about(9), 1);
        for (int what : new int[] {-1, 11, LEAST, MOST}) {
            is("6: about " + what, folds.about(what), BAD);
        }
    }

    private static void promise7() {
        SquareFolds folds = Due.surface("S3120201");
        int[][] want = {{1, 2, 2, 1}, {2, 0, 0, 2}, {0, 1, 1, 0}};
        for (int square = 0; square < 3; square++) {
            for (int move = 1; move <= 4; move++) {
                is("7: go " + square + " " + move, folds.go(square, move), want[square][move - 1]);
            }
        }
        for (int square : new int[] {-1, 3, LEAST, MOST}) {
            is("7: no square " + square, folds.go(square, 1), UNKNOWN);
        }
        for (int move : new int[] {0, 5, -1, LEAST, MOST}) {
            is("7: no move " + move, folds.go(0, move), BAD);
        }
        is("7: UNKNOWN is told first", folds.go(3, 5), UNKNOWN);
    }

    private static void promise8() {
        SquareFolds folds = Due.surface(LONG);
        is("8: right", folds.walk(0, 1), 1);
        is("8: left", folds.walk(0, 2), 4);
        is("8: up", folds.walk(0, 3), 1);
        is("8: down", folds.walk(1, 4), 0);
        is("8: the first one first", folds.walk(4, 13), 1);
        is("8: the other way round", folds.walk(4, 31), 0);
        is("8: three", folds.walk(2, 224), 1);
        is("8: four", folds.walk(3, 1111), 2);
        is("8: C is 1324", folds.walk(0, 1324), folds.square(0, 1));
        is("8: 4444", folds.walk(0, 4444), 0);
        for (int way : new int[] {0, 5, 10, 15, 51, 105, 1000, 1011, 1115, 4445, 5111, 11111, -1, -11, LEAST, MOST}) {
            is("8: no way " + way, folds.walk(0, way), BAD);
        }
        for (int square : new int[] {-1, 5, LEAST, MOST}) {
            is("8: no square " + square, folds.walk(square, 1), UNKNOWN);
        }
        is("8: UNKNOWN is told first", folds.walk(5, 0), UNKNOWN);
    }

    private static void squaresOf(String text, int what, int... want) {
        SquareFolds folds = Due.surface(text);
        for (int i = 0; i < want.length; i++) {
            is("9: square " + i + " " + what + " of " + text, folds.square(i, what), want[i]);
        }
    }

    private static void promise9() {
        squaresOf(THREE, 0, 3, 3, 12, 12, 16);
        squaresOf(ELL, 1, 2, 0, 1);
        squaresOf(FOUR, 1, 0, 1, 2, 3);
        squaresOf(LONG, 1, 4, 0, 2, 3, 1);
        squaresOf(LONG, 2, 3, 3, 1, 1, 3);
        squaresOf(ELL, 3, 3, 3, 4);
        squaresOf(THREE, 3, 3, 3, 4, 8, 16);
        squaresOf(ELL, 4, 3, 3, 4);
        squaresOf(FOUR, 4, 15, 15, 15, 15);
        squaresOf(THREE, 4, 3, 3, 12, 12, 16);
        squaresOf("S410232130", 4, 3, 3, 12, 12);
        squaresOf(LONG, 5, 2, 2, 2, 2, 2);
        // An L, and beside it two squares one above the other: each piece has its own holes.
        squaresOf("S51023421043", 5, 2, 2, 2, 1, 1);
        squaresOf("S51034220143", 1, 2, 3, 4, 0, 1);
        squaresOf("S51034220143", 2, 5, 5, 5, 5, 5);
        squaresOf("S51034220143", 5, 3, 3, 3, 3, 3);
        SquareFolds folds = Due.surface(ELL);
        for (int what : new int[] {-1, 6, LEAST, MOST}) {
            is("9: no what " + what, folds.square(0, what), BAD);
        }
        for (int square : new int[] {-1, 3, LEAST, MOST}) {
            is("9: no square " + square, folds.square(square, 0), UNKNOWN);
        }
        is("9: UNKNOWN is told first", folds.square(3, 6), UNKNOWN);
    }

    private static void promise10() {
        SquareFolds folds = Due.surface(ELL);
        is("10: from 0", folds.name(0, 0), 102210);
        is("10: from 1", folds.name(1, 0), 102021);
        is("10: from 2", folds.name(2, 0), 21102);
        for (int i = 0; i < 3; i++) {
            is("10: the least, asked of " + i, folds.name(i, 1), 21102);
        }
        SquareFolds three = Due.surface(THREE);
        is("10: of the row", three.name(1, 1), 1001);
        is("10: of the column", three.name(2, 1), 110);
        is("10: of the single square", three.name(4, 1), 0);
        is("10: ten figures", Due.surface("S54012301234").name(0, 0), 1234001234L);
        for (int least : new int[] {-1, 2, LEAST, MOST}) {
            is("10: no least " + least, folds.name(0, least), BAD);
        }
        for (int square : new int[] {-1, 3, LEAST, MOST}) {
            is("10: no square " + square, folds.name(square, 0), UNKNOWN);
        }
        is("10: UNKNOWN is told first", folds.name(3, 2), UNKNOWN);
    }

    private static void glued(String call, SquareFolds folds, String right, String up) {
        for (int i = 0; i < right.length(); i++) {
            is(call + ": R of " + i, folds.go(i, 1), right.charAt(i) - '0');
            is(call + ": U of " + i, folds.go(i, 3), up.charAt(i) - '0');
        }
    }

    private static void promise11() {
        SquareFolds side = Due.surface("S412303210");
        is("11: SIDE", side.shear(0), side.about(2));
        glued("11: SIDE", side, "1230", "0321");
        SquareFolds upward = Due.surface("S412300132");
        is("11: UPWARD", upward.shear(1), upward.about(2));
        glued("11: UPWARD", upward, "1203", "0132");
        SquareFolds quarter = Due.surface("S412301302");
        is("11: QUARTER", quarter.shear(2), quarter.about(2));
        glued("11: QUARTER", quarter, "2031", "1230");
        is("11: corners of four", Due.surface(FOUR).shear(0), 4);
        is("11: corners of five apart", Due.surface(APART).shear(2), 5);
        SquareFolds folds = Due.surface(ELL);
        is("11: corners of the L", folds.shear(1), 1);
        for (int how : new int[] {-1, 3, LEAST, MOST}) {
            is("11: no how " + how, folds.shear(how), BAD);
        }
        is("11: only one was done", folds.about(8), 1);
    }

    private static void promise12() {
        SquareFolds folds = Due.surface("S412301302");
        is("12: traded", folds.trade(0, 2), 1);
        glued("12: 0 and 2", folds, "3012", "2310");
        is("12: and back", folds.trade(2, 0), 1);
        glued("12: back", folds, "1230", "1302");
        is("12: it is one", folds.trade(1, 1), BAD);
        for (int square : new int[] {-1, 4, LEAST, MOST}) {
            is("12: no square " + square, folds.trade(square, 0), UNKNOWN);
            is("12: no other square " + square, folds.trade(0, square), UNKNOWN);
            is("12: UNKNOWN is told first, " + square, folds.trade(square, square), UNKNOWN);
        }
        is("12: two were done", folds.about(8), 2);
    }

    private static void promise13() {
        SquareFolds folds = Due.surface("S412301302");
        is("13: none", folds.undo(), LATE);
        for (int how = 0; how < 3; how++) {
            folds.shear(how);
            is("13: undo of " + how, folds.undo(), 0);
            glued("13: undone " + how, folds, "1230", "1302");
        }
        folds.trade(1, 3);
        folds.shear(0);
        is("13: two less one", folds.undo(), 1);
        is("13: the trade", folds.undo(), 0);
        glued("13: undone trade", folds, "1230", "1302");
        is("13: none again", folds.undo(), LATE);
        promise13Forgets();
    }

    private static String told(SquareFolds folds) {
        StringBuilder told = new StringBuilder();
        int squares = folds.about(0);
        for (int i = 0; i < squares; i++) {
            told.append(folds.go(i, 1)).append(folds.go(i, 3));
        }
        return told.toString();
    }

    private static void promise13Forgets() {
        SquareFolds folds = Due.surface("S412301302");
        String[] were = new String[33];
        for (int k = 0; k < 33; k++) {
            were[k] = told(folds);
            if (k % 4 == 3) {
                folds.trade(k % 3, 3);
            } else {
                folds.shear((k + k / 4) % 3);
            }
        }
        is("13: fourteen at most", folds.about(8), 14);
        for (int left = 13; left >= 0; left--) {
            is("13: undo", folds.undo(), left);
            DUE.holds("13: as it was, " + left + " are left", told(folds).equals(were[33 - 14 + left]));
        }
        is("13: the fifteenth", folds.undo(), LATE);
        DUE.holds("13: the first ones stay done", told(folds).equals(were[33 - 14]));
        folds.shear(0);
        is("13: one again", folds.undo(), 0);
    }

    private static void orbitOf(String text, int square, int names, int cusps, int widest) {
        SquareFolds folds = Due.surface(text);
        is("14: names of " + text, folds.orbit(square, 0), names);
        is("14: cusps of " + text, folds.orbit(square, 1), cusps);
        is("14: widest of " + text, folds.orbit(square, 2), widest);
        is("14: nothing is done", folds.about(8), 0);
    }

    private static void promise14() {
        orbitOf("S100", 0, 1, 1, 1);
        orbitOf("S21001", 0, 3, 2, 2);
        orbitOf("S3120012", 0, 4, 2, 3);
        orbitOf(ELL, 0, 3, 2, 2);
        orbitOf(FOUR, 0, 1, 1, 1);
        orbitOf(LONG, 0, 18, 5, 6);
        orbitOf("S51234001234", 0, 6, 2, 5);
        orbitOf(THREE, 2, 3, 2, 2);
        orbitOf(THREE, 4, 1, 1, 1);
        SquareFolds folds = Due.surface(ELL);
        folds.shear(0);
        is("14: sheared, the orbit is the same", folds.orbit(0, 0), 3);
        Due.tell(folds, "S3120012");
        folds.surface();
        is("14: of another surface", folds.orbit(0, 0), 4);
        for (int what : new int[] {-1, 3, LEAST, MOST}) {
            is("14: no what " + what, folds.orbit(0, what), BAD);
        }
        for (int square : new int[] {-1, 3, LEAST, MOST}) {
            is("14: no square " + square, folds.orbit(square, 0), UNKNOWN);
        }
        is("14: UNKNOWN is told first", folds.orbit(3, 3), UNKNOWN);
    }

    private static void promise15() {
        SquareFolds folds = Due.surface(THREE);
        is("15: itself", folds.alike(0, 0, 0), 1);
        is("15: one piece", folds.alike(0, 1, 0), 1);
        is("15: row and column, by name", folds.alike(0, 2, 0), 0);
        is("15: row and column, by orbit", folds.alike(0, 2, 1), 1);
        is("15: column and row, by orbit", folds.alike(3, 1, 1), 1);
        is("15: row and one square, by orbit", folds.alike(0, 4, 1), 0);
        is("15: one square and row, by orbit", folds.alike(4, 0, 1), 0);
        SquareFolds rows = Due.surface("S51032401234");
        is("15: two rows", rows.alike(0, 3, 0), 1);
        for (int how : new int[] {-1, 2, LEAST, MOST}) {
            is("15: no how " + how, folds.alike(0, 1, how), BAD);
        }
        for (int square : new int[] {-1, 5, LEAST, MOST}) {
            is("15: no square " + square, folds.alike(square, 0, 0), UNKNOWN);
            is("15: no other square " + square, folds.alike(0, square, 1), UNKNOWN);
            is("15: UNKNOWN is told first", folds.alike(0, square, 2), UNKNOWN);
        }
    }

    private static void promise16() {
        SquareFolds folds = Due.surface(THREE);
        long name = folds.name(0, 0);
        is("16: shears", folds.judge(3, 100020003000L), NONE);
        is("16: in one piece", folds.judge(1, 5010), NONE);
        is("16: a square with itself", folds.judge(1, 5440), NONE);
        is("16: not in one piece", folds.judge(1, 5020), 0);
        is("16: told behind a trade", folds.judge(2, 40125020L), NONE);
        is("16: no more in one piece", folds.judge(2, 40125010L), 1);
        is("16: five ordinary corners", folds.judge(1, 6005), NONE);
        is("16: at least none", folds.judge(1, 6000), NONE);
        is("16: not six", folds.judge(1, 6006), 0);
        is("16: one hole", folds.judge(1, 7401), NONE);
        is("16: not two", folds.judge(1, 7402), 0);
        is("16: not none", folds.judge(1, 7400), 0);
        is("16: the last of four", folds.judge(4, 1000200030005040L), 3);
        is("16: the first fault ends it", folds.judge(4, 1000502099995020L), 1);
        is("16: nothing changes", folds.name(0, 0), name);
        is("16: no doings", folds.about(8), 0);
        SquareFolds ell = Due.surface("S410232130");
        is("16: two holes", ell.judge(2, 60017002L), NONE);
        is("16: all trades count", folds.judge(4, 4012402450405010L), 3);
        is("16: two trades, then so", folds.judge(3, 401240245040L), NONE);
    }

    private static void promise16Refusals() {
        SquareFolds folds = Due.surface("S3120012");
        for (long told : new long[] {0, 1, 999, 1001, 1010, 1100, 2001, 2010, 2100, 3001, 3010, 3100,
            4100, 4101, 4000, 4011, 4003, 4030, 4033, 4090, 5001, 5011, 5030, 5300, 5900, 6010, 6100, 6004,
            7000, 7011, 7301, 7901, 8000, 9000, 9999}) {
            is("16: can not be " + told, folds.judge(1, told), 0);
            is("16: nor behind another " + told, folds.judge(2, 10000000L + told), 1);
        }
        for (long told : new long[] {1000, 2000, 3000, 4001, 4002, 4012, 4021, 5020, 6003, 7001, 7201}) {
            is("16: can be " + told, folds.judge(1, told), NONE);
        }
        is("16: figures in front are 0", folds.judge(2, 1000), 0);
        for (int n : new int[] {-1, 0, 5, LEAST, MOST}) {
            is("16: no n " + n, folds.judge(n, 1000), BAD);
        }
        is("16: no doing", folds.judge(0, 0), BAD);
        is("16: less than 0", folds.judge(1, -1), BAD);
        is("16: far less", folds.judge(4, Long.MIN_VALUE), BAD);
        is("16: five figures", folds.judge(1, 10000), BAD);
        is("16: nine figures", folds.judge(2, 100000000L), BAD);
        is("16: thirteen figures", folds.judge(3, 1000000000000L), BAD);
        is("16: sixteen figures", folds.judge(4, 9999999999999999L), 0);
        is("16: seventeen figures", folds.judge(4, 10000000000000000L), BAD);
        is("16: far more", folds.judge(4, Long.MAX_VALUE), BAD);
    }

    private static void shareOf(String text, int square, int above, int below) {
        SquareFolds folds = Due.surface(text);
        is("17: above, " + square + " of " + text, folds.share(square, true), above);
        is("17: below, " + square + " of " + text, folds.share(square, false), below);
    }

    private static void promise17() {
        shareOf("S100", 0, 1, 1);
        shareOf(APART, 4, 1, 1);
        shareOf("S21001", 0, 1, 2);
        shareOf(ELL, 0, 0, 1);
        shareOf(ELL, 1, 1, 2);
        // A ring has one piece in the end, shared alike.
        shareOf("S3120012", 0, 1, 3);
        shareOf("S51234001234", 3, 1, 5);
        // 0 is beside 1, 2, 3, of which 2 and 3 are beside one another: 1/4 less 2/12 less 1/4.
        shareOf("S410232130", 0, -1, 6);
        // A ring 0 2 3 1 4 with 0 beside 1: 1/5 and 1/20 less 2/30 less 2/20.
        shareOf("S51023424310", 0, 1, 12);
        // A ring 0 2 3 4 with 1 beside 0: 1/5 and 1/20 less 3/30 less 4/20 less 1/5.
        shareOf("S51023421340", 0, -1, 4);
        SquareFolds folds = Due.surface(ELL);
        for (int square : new int[] {-1, 3, LEAST, MOST}) {
            is("17: no square " + square, folds.share(square, true), UNKNOWN);
            is("17: none below " + square, folds.share(square, false), UNKNOWN);
        }
    }

    private static void promise18() {
        SquareFolds folds = new SquareFolds();
        for (int way : new int[] {0, 5, 10, 1115, 11111, -1, LEAST, MOST}) {
            is("18: no way " + way, folds.see(way, 1), BAD);
        }
        for (int back : new int[] {-1, 2, LEAST, MOST}) {
            is("18: no back " + back, folds.see(1, back), BAD);
        }
        is("18: nothing so far", folds.about(9), 0);
        int[] ways = {1, 23, 444, 1111, 4444, 1};
        for (int k = 0; k < 6; k++) {
            is("18: see " + ways[k], folds.see(ways[k], k % 2), k + 1);
        }
        is("18: the seventh", folds.see(1, 1), FULL);
        is("18: BAD is told first", folds.see(5, 1), BAD);
        is("18: six", folds.about(9), 6);
    }

    private static void promise19() {
        SquareFolds folds = Due.surface(ELL);
        is("19: nothing", folds.unsee(), 0);
        folds.see(1, 1);
        folds.see(3, 0);
        is("19: two", folds.unsee(), 2);
        is("19: none", folds.about(9), 0);
        is("19: all squares", folds.which(), 7);
        is("19: from 1 again", folds.see(1, 0), 1);
    }

    private static void promise20() {
        SquareFolds folds = Due.surface(ELL);
        is("20: nothing seen", folds.which(), 7);
        folds.see(1, 0);
        is("20: right is another", folds.which(), 3);
        folds.see(3, 1);
        is("20: above is itself", folds.which(), 2);
        folds.see(1324, 1);
        is("20: none", folds.which(), 0);
        folds.unsee();
        folds.see(13, 0);
        folds.see(11, 1);
        is("20: all of two", folds.which(), 7);
        folds.see(31, 0);
        folds.see(3, 0);
        is("20: the first one first", folds.which(), 5);
        folds.shear(0);
        is("20: of the surface as it is", folds.which(), 4);
        Due.tell(folds, APART);
        folds.surface();
        is("20: of another surface", folds.which(), 0);
        folds.unsee();
        folds.see(1234, 1);
        is("20: five squares", folds.which(), 31);
    }

    private static void opensOf(String text, int x, int above, int below) {
        SquareFolds folds = Due.surface(text);
        is("21: above, " + x + " of " + text, folds.opens(x, true), above);
        is("21: below, " + x + " of " + text, folds.opens(x, false), below);
    }

    private static void promise21() {
        opensOf("S100", 10, 1, 1);
        opensOf("S100", 3, 1, 1);
        opensOf(ELL, 0, 1, 1);
        opensOf(ELL, 5, 3, 4);
        opensOf(ELL, 10, 0, 1);
        opensOf(APART, 0, 0, 1);
        opensOf("S50123412340", 10, 1, 1);
        // A ring of three seams holds as long as at most one is open.
        opensOf("S3120012", 1, 243, 250);
        opensOf("S21001", 4, 21, 25);
        // A ring of five: 0.9^5 and 5 times 0.1 0.9^4.
        opensOf("S51234001234", 1, 45927, 50000);
        SquareFolds folds = Due.surface(ELL);
        for (int x : new int[] {-1, 11, LEAST, MOST}) {
            is("21: no x " + x, folds.opens(x, true), BAD);
            is("21: none below " + x, folds.opens(x, false), BAD);
        }
    }

    private static void promise22() {
        SquareFolds folds = new SquareFolds();
        is("22: at first", folds.seed(Long.MIN_VALUE), 0);
        is("22: the least", folds.seed(Long.MAX_VALUE), Long.MIN_VALUE);
        is("22: the greatest", folds.seed(-5), Long.MAX_VALUE);
        is("22: less than 0", folds.seed(0), -5);
    }

    private static void promise23() {
        SquareFolds folds = Due.surface(LONG);
        folds.shear(0);
        folds.shear(0);
        long name = folds.name(0, 0);
        folds.seed(-7);
        long x = -7L * 6364136223846793005L + 1442695040888963407L;
        is("23: one", folds.drawn(1) > 0 ? 1 : 0, 1);
        is("23: the seed went on by one", folds.seed(0), x);
        is("23: twenty", folds.drawn(20), 148);
        long behind = 0;
        for (int k = 0; k < 20; k++) {
            behind = behind * 6364136223846793005L + 1442695040888963407L;
        }
        is("23: the seed went on by twenty", folds.seed(3), behind);
        for (int m : new int[] {-1, 0, 21, LEAST, MOST}) {
            is("23: no m " + m, folds.drawn(m), BAD);
        }
        is("23: refused, the seed stays", folds.seed(0), 3);
        is("23: the surface stays", folds.name(0, 0), name);
        is("23: no more doings", folds.about(8), 2);
        SquareFolds one = new SquareFolds();
        is("23: of one square three each time", one.drawn(20), 60);
        promise23AsDoings();
    }

    /** What is drawn is what the same doings, called one by one, come to. */
    private static void promise23AsDoings() {
        for (long seed = 0; seed < 40; seed++) {
            SquareFolds folds = Due.surface("S410232130");
            folds.seed(seed);
            SquareFolds called = Due.surface("S410232130");
            long x = seed;
            int sum = 0;
            for (int k = 0; k < 12; k++) {
                x = x * 6364136223846793005L + 1442695040888963407L;
                long top = x >>> 33;
                if (top % 4 == 3) {
                    called.trade((int) (top / 8 % 4), (int) (top / 64 % 4));
                } else {
                    called.shear((int) (top % 4));
                }
                sum += called.about(2) + called.about(5) + called.about(6);
            }
            is("23: by seed " + seed, folds.drawn(12), sum);
        }
    }

    private static void promise24And25() {
        SquareFolds folds = Due.surface("S412301302");
        for (int slot : new int[] {-1, 2, LEAST, MOST}) {
            is("24: no slot " + slot, folds.keep(slot), UNKNOWN);
            is("25: no slot " + slot, folds.again(slot), UNKNOWN);
        }
        is("25: none kept in 0", folds.again(0), LATE);
        is("25: none kept in 1", folds.again(1), LATE);
        is("24: four squares", folds.keep(0), 4);
        is("25: slot 1 is another", folds.again(1), LATE);
        folds.shear(2);
        is("25: refused, the doings stay", folds.again(1), LATE);
        is("25: one doing", folds.about(8), 1);
        is("24: kept in 1", folds.keep(1), 4);
        is("24: keeping is no doing, and leaves them", folds.about(8), 1);
        folds.trade(0, 1);
        is("25: slot 0", folds.again(0), 4);
        glued("25: slot 0", folds, "1230", "1302");
        is("25: no doings", folds.about(8), 0);
        is("25: nothing to undo", folds.undo(), LATE);
        is("25: slot 1", folds.again(1), 4);
        glued("25: slot 1", folds, "2031", "1230");
        is("25: slot 0 once more", folds.again(0), 4);
        glued("25: slot 0 once more", folds, "1230", "1302");
        folds.shear(0);
        is("24: over what was kept", folds.keep(1), 4);
        folds.again(0);
        folds.again(1);
        is("25: the last one kept", folds.go(1, 3), 1);
        folds.surface();
        is("25: a new surface, none kept", folds.again(0), LATE);
        SquareFolds one = new SquareFolds();
        is("24: one square", one.keep(1), 1);
        is("25: one square", one.again(1), 1);
    }
}
