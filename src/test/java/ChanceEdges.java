/** The edges of promises 17 to 25: shares, what is seen, chances, slots. */
final class ChanceEdges {
    private static final int UNKNOWN = SquareFolds.UNKNOWN;
    private static final int BAD = SquareFolds.BAD;
    private static final int LATE = SquareFolds.LATE;
    private static final int FULL = SquareFolds.FULL;
    private static final int LEAST = Integer.MIN_VALUE;
    private static final int MOST = Integer.MAX_VALUE;
    private static final long TIMES = 6364136223846793005L;
    private static final long AND = 1442695040888963407L;

    private final Edge edge;

    ChanceEdges(Edge edge) {
        this.edge = edge;
    }

    void all() {
        shares();
        sharesThatAreRefused();
        seenWays();
        sixSeen();
        unseen();
        whichSquares();
        opens();
        opensThatAreRefused();
        seeds();
        drawnTimes();
        drawnWraps();
        drawnKinds();
        drawnChangesNothingElse();
        kept();
        keptAnew();
        goneOnFrom();
    }

    private void share(String text, int square, int above, int below) {
        SquareFolds folds = Due.surface(text);
        edge.is("share(" + square + ", true) of " + text, folds.share(square, true), above);
        edge.is("share(" + square + ", false) of " + text, folds.share(square, false), below);
    }

    private void shares() {
        edge.of(17, "by how many PIECES there are more in the mean when it has come than there were: a FRACTION.");
        share("S100", 0, 1, 1);
        for (int i = 0; i < 5; i++) {
            share(SurfaceEdges.APART, i, 1, 1);
        }
        edge.of(17, "FRACTIONS are told above (upper = true; less than 0, if they are), below, in least terms.");
        share("S3102210", 0, 0, 1);
        share("S3102210", 1, 1, 2);
        share("S21001", 1, 1, 2);
        // 1 less 1/2 (3 is there) less 2/3 (of 0 and 1, which hang together, one is there).
        share("S401321203", 2, -1, 6);
        // All four others are beside it, in two pairs: 1 less 2/3 less 2/3.
        share("S50134212034", 2, -1, 3);
        // Beside it is the row 1 3 4: 1 less 3/2 and 2/3; 0 holds 1 and 4 together if 3 is not there, 1/20.
        share("S50214313420", 2, 13, 60);
        edge.of(17, "(MOVES lead between those that have come alone)");
        // Two are beside it, which hang together only when all have come: 1 less 2/2 and 1/5.
        for (int i = 0; i < 5; i++) {
            share("S50123412340", i, 1, 5);
            share("S51234001234", i, 1, 5);
        }
    }

    private void sharesThatAreRefused() {
        edge.of(17, "SHARE. UNKNOWN.");
        for (int n = 1; n <= 5; n++) {
            SquareFolds folds = Due.surface(SurfaceEdges.WHOLE[n]);
            for (int square : new int[] {-1, n, 5, LEAST, MOST}) {
                edge.refuses("share(" + square + ", true) of " + n, folds.share(square, true), UNKNOWN);
                edge.refuses("share(" + square + ", false) of " + n, folds.share(square, false), UNKNOWN);
            }
            edge.holds("the last of " + n, folds.share(n - 1, false) > 0);
        }
    }

    private void seenWays() {
        edge.of(18, "BAD: way, back (0, 1); FULL: 6.");
        SquareFolds folds = new SquareFolds();
        for (int way = -50; way <= 50000; way++) {
            if (way % 200 == 0) {
                folds = new SquareFolds();
            }
            if (String.valueOf(way).matches("[1-4]{1,4}")) {
                edge.is("see(" + way + ", 1)", folds.see(way, 1), 1);
                folds.unsee();
            } else {
                edge.refuses("see(" + way + ", 1)", folds.see(way, 1), BAD);
            }
        }
        for (int way : new int[] {0, 1111111111, -1, LEAST, MOST}) {
            edge.refuses("see(" + way + ", 0)", folds.see(way, 0), BAD);
        }
        for (int back : new int[] {-1, 2, 3, 256, LEAST, MOST}) {
            edge.refuses("see(1, " + back + ")", folds.see(1, back), BAD);
        }
        edge.is("nothing is seen", folds.about(9), 0);
        edge.is("back", folds.see(1, 1), 1);
        edge.is("not back", folds.see(4444, 0), 2);
    }

    private void sixSeen() {
        edge.of(18, "6 such at most, none at first");
        SquareFolds folds = Due.surface("S3102210");
        for (int count = 1; count <= 6; count++) {
            edge.is("see the same again, " + count, folds.see(1, 1), count);
        }
        edge.of(18, "BAD: way, back (0, 1); FULL: 6.");
        edge.refuses("the seventh", folds.see(1, 0), FULL);
        edge.is("it is not seen", folds.which(), 4);
        edge.is("there are six", folds.about(9), 6);
        edge.of(18, "Of several what is told first.");
        edge.refuses("BAD way ahead of FULL", folds.see(0, 1), BAD);
        edge.refuses("BAD back ahead of FULL", folds.see(1, 2), BAD);
        folds.unsee();
        for (int count = 1; count <= 5; count++) {
            folds.see(11, 1);
        }
        edge.of(18, "SEEN: how many there are.");
        edge.is("the sixth one", folds.see(3, 1), 6);
        edge.is("it counts as well", folds.which(), 2);
    }

    private void unseen() {
        edge.of(19, "Nothing is SEEN: how much there was.");
        SquareFolds folds = Due.surface("S3102210");
        edge.is("nothing", folds.unsee(), 0);
        for (int k = 0; k < 8; k++) {
            folds.see(1, k % 2);
        }
        edge.is("no square is left", folds.which(), 0);
        edge.is("six", folds.unsee(), 6);
        edge.is("seen then", folds.about(9), 0);
        edge.is("all squares are left", folds.which(), 7);
        edge.is("twice", folds.unsee(), 0);
        edge.is("there is room anew", folds.see(1, 1), 1);
        edge.is("one alone counts", folds.which(), 4);
        edge.is("one", folds.unsee(), 1);
    }

    private void whichSquares() {
        edge.of(20, "WHICH: SQUARES by which all that is SEEN is so: bits.");
        for (int n = 1; n <= 5; n++) {
            SquareFolds folds = Due.surface(SurfaceEdges.WHOLE[n]);
            edge.is("nothing seen of " + n, folds.which(), (1 << n) - 1);
            folds.see(12, 1);
            edge.is("what is always so", folds.which(), (1 << n) - 1);
            folds.see(12, 0);
            edge.is("and not so", folds.which(), 0);
        }
        edge.of(20, "came back to it (1), or did not (0)");
        SquareFolds folds = Due.surface("S51230401234");
        folds.see(1, 0);
        edge.is("not the last", folds.which(), 15);
        folds.unsee();
        folds.see(1, 1);
        edge.is("the last alone", folds.which(), 16);
        folds.unsee();
        folds.see(1111, 1);
        edge.is("four moves, once around", folds.which(), 31);
        folds.see(111, 0);
        edge.is("three are not enough", folds.which(), 15);
        edge.of(20, "WHICH, as bits.");
        folds.shear(2);
        edge.is("of the surface as it is", folds.which(), 0);
        folds.undo();
        edge.is("and as it was", folds.which(), 15);
        Due.tell(folds, "S100");
        folds.surface();
        edge.is("of one square", folds.which(), 0);
    }

    private void opens(String text, int x, int above, int below) {
        SquareFolds folds = Due.surface(text);
        edge.is("opens(" + x + ", true) of " + text, folds.opens(x, true), above);
        edge.is("opens(" + x + ", false) of " + text, folds.opens(x, false), below);
    }

    private void opens() {
        edge.of(21, "OPENS: each seam to the right of a SQUARE opens by x tenths (0 .. 10), by itself (no MOVE leads over it, either way)");
        for (int n = 1; n <= 5; n++) {
            opens(SurfaceEdges.WHOLE[n], 0, 1, 1);
        }
        opens("S51234001234", 10, 0, 1);
        opens("S50123412340", 10, 1, 1);
        // A ring holds with one seam open at most, whichever way one goes.
        opens("S21001", 1, 99, 100);
        opens("S3120012", 9, 7, 250);
        opens("S51234001234", 9, 23, 50000);
        opens("S51234001234", 1, 45927, 50000);
        // A seam of a square to itself, and squares above one another, do not need it.
        opens("S3102210", 9, 19, 100);
        edge.of(21, "that all SQUARES are in one PIECE: a FRACTION.");
        for (int x = 0; x <= 10; x++) {
            opens("S100", x, 1, 1);
            opens(SurfaceEdges.APART, x, 0, 1);
            opens("S410230132", x, 0, 1);
        }
        edge.of(21, "FRACTIONS are told above (upper = true; less than 0, if they are), below, in least terms.");
        opens("S21001", 5, 3, 4);
        opens("S21001", 2, 24, 25);
    }

    private void opensThatAreRefused() {
        edge.of(21, "OPENS. BAD: x.");
        SquareFolds folds = Due.surface("S3120012");
        for (int x : new int[] {-1, 11, 12, -10, LEAST, MOST}) {
            edge.refuses("opens(" + x + ", true)", folds.opens(x, true), BAD);
            edge.refuses("opens(" + x + ", false)", folds.opens(x, false), BAD);
        }
        edge.is("the seams are shut again", folds.go(0, 1), 1);
    }

    private void seeds() {
        edge.of(22, "THE SEED is v: what it was.");
        SquareFolds folds = new SquareFolds();
        long was = 0;
        for (long v : new long[] {1, -1, Long.MAX_VALUE, Long.MIN_VALUE, 1L << 32, -3, 0, 0}) {
            edge.is("seed(" + v + ")", folds.seed(v), was);
            was = v;
        }
    }

    /** From which seed the next number is this one: TIMES is odd, so it can be turned back. */
    private static long ahead(long number) {
        long back = 1;
        for (int k = 0; k < 6; k++) {
            back *= 2 - TIMES * back;
        }
        return (number - AND) * back;
    }

    private void drawnTimes() {
        edge.of(23, "DRAWN by THE SEED: m times (1 .. 20)");
        SquareFolds folds = new SquareFolds();
        for (int m = 1; m <= 20; m++) {
            edge.is("one corner, one row, one band, " + m + " times", folds.drawn(m), 3 * m);
        }
        SquareFolds apart = Due.surface(SurfaceEdges.APART);
        edge.is("five each, once", apart.drawn(1), 15);
        edge.is("five each, twenty times", apart.drawn(20), 300);
        edge.of(23, "DRAWN. BAD: m.");
        apart.seed(77);
        for (int m : new int[] {0, 21, -1, 22, LEAST, MOST}) {
            edge.refuses("drawn(" + m + ")", apart.drawn(m), BAD);
        }
        edge.is("the seed stays", apart.seed(0), 77);
    }

    private void drawnWraps() {
        edge.of(23, "becomes x times 6364136223846793005 and 1442695040888963407 (64 bits, wrapping)");
        long[] seeds = {0, 1, -1, Long.MAX_VALUE, Long.MIN_VALUE, 1L << 33, ahead(-1), ahead(0), ahead(Long.MIN_VALUE)};
        for (long seed : seeds) {
            SquareFolds folds = new SquareFolds();
            folds.seed(seed);
            folds.drawn(1);
            edge.is("once from " + seed, folds.seed(seed), seed * TIMES + AND);
            folds.drawn(20);
            long x = seed;
            for (int k = 0; k < 20; k++) {
                x = x * TIMES + AND;
            }
            edge.is("twenty times from " + seed, folds.seed(0), x);
        }
        edge.is("turned back", ahead(-1) * TIMES + AND, -1);
        SquareFolds parts = new SquareFolds();
        parts.seed(5);
        for (int k = 0; k < 20; k++) {
            parts.drawn(1);
        }
        SquareFolds whole = new SquareFolds();
        whole.seed(5);
        whole.drawn(20);
        edge.is("it goes on from where it was", parts.seed(0), whole.seed(0));
    }

    /** What is drawn once, if the number's upper 31 bits are these and all lower ones are 1. */
    private static int drawnBy(SquareFolds folds, long upper) {
        folds.seed(ahead(upper << 33 | (1L << 33) - 1));
        return folds.drawn(1);
    }

    private void drawnKinds() {
        edge.of(23, "of its upper 31 bits what is left by 4: 0 it is SIDE, 1 UPWARD, 2 QUARTER, 3 TRADED");
        // Five corners always; the row is one band, sheared upward as well, and five rows in one band if turned.
        SquareFolds row = Due.surface("S51234001234");
        // Five rows in one band; sheared upward they are one row, turned as well.
        SquareFolds column = Due.surface("S50123412340");
        for (long base : new long[] {0, 4, 1L << 29, 1L << 30, (1L << 31) - 4}) {
            edge.is("SIDE of the row, " + base, drawnBy(row, base), 7);
            edge.is("UPWARD of the row, " + base, drawnBy(row, base + 1), 7);
            edge.is("QUARTER of the row, " + base, drawnBy(row, base + 2), 11);
            edge.is("TRADED in the row, " + base, drawnBy(row, base + 3), 7);
            edge.is("SIDE of the column, " + base, drawnBy(column, base), 11);
            edge.is("UPWARD of the column, " + base, drawnBy(column, base + 1), 7);
            edge.is("QUARTER of the column, " + base, drawnBy(column, base + 2), 7);
            edge.is("TRADED in the column, " + base, drawnBy(column, base + 3), 11);
        }
        drawnOneAfterTheOther();
    }

    /** The same doings, called one by one on a surface by itself, come to the same sum. */
    private void drawnOneAfterTheOther() {
        edge.of(23, "how many CORNERS there are, and ROWS, and BANDS, each time, together");
        // The last three are not like their own mirrors, neither to the side nor upward.
        String[] texts = {"S100", "S21001", "S3102210", "S412301302", "S51234010234", "S3120120", "S412300231", "S50234101342"};
        for (String text : texts) {
            for (long seed = -20; seed < 20; seed++) {
                SquareFolds folds = Due.surface(text);
                folds.seed(seed);
                edge.is("drawn(20) of " + text + " by " + seed, folds.drawn(20), sumOfDoings(text, seed));
            }
        }
    }

    private static int sumOfDoings(String text, long seed) {
        SquareFolds folds = Due.surface(text);
        int n = folds.about(0);
        long x = seed;
        int sum = 0;
        for (int k = 0; k < 20; k++) {
            x = x * TIMES + AND;
            long upper = x >>> 33;
            if (upper % 4 < 3) {
                folds.shear((int) (upper % 4));
            } else {
                folds.trade((int) (upper / 8 % n), (int) (upper / 64 % n));
            }
            sum += folds.about(2) + folds.about(5) + folds.about(6);
        }
        return sum;
    }

    private void drawnChangesNothingElse() {
        edge.of(23, "(Nothing changes but THE SEED.)");
        for (long upper : new long[] {0, 1, 2, 3, 11, 75}) {
            SquareFolds folds = Due.surface("S412301302");
            folds.shear(2);
            folds.keep(0);
            folds.see(11, 0);
            drawnBy(folds, upper);
            folds.drawn(20);
            edge.glued("the surface, " + upper, folds, "2031", "1230");
            edge.is("the doings", folds.about(8), 1);
            edge.is("seen", folds.about(9), 1);
            edge.is("the text", folds.about(10), 10);
            edge.is("undone", folds.undo(), 0);
            edge.glued("as told", folds, "1230", "1302");
            folds.again(0);
            edge.glued("as kept", folds, "2031", "1230");
        }
    }

    private void kept() {
        edge.of(24, "They are kept: how many SQUARES. UNKNOWN.");
        for (int n = 1; n <= 5; n++) {
            SquareFolds folds = Due.surface(SurfaceEdges.WHOLE[n]);
            edge.is("slot 0, squares " + n, folds.keep(0), n);
            edge.is("slot 1, squares " + n, folds.keep(1), n);
            for (int slot : new int[] {-1, 2, 3, LEAST, MOST}) {
                edge.refuses("keep(" + slot + ")", folds.keep(slot), UNKNOWN);
            }
        }
        edge.of(24, "SLOTS 0 .. 1 keep R and U (no DOINGS when one goes on).");
        SquareFolds folds = Due.surface("S412301302");
        folds.shear(2);
        edge.is("keep(0)", folds.keep(0), 4);
        edge.is("its doings stay", folds.about(8), 1);
        edge.is("and can be undone", folds.undo(), 0);
        edge.glued("undone", folds, "1230", "1302");
        folds.keep(1);
        edge.is("slot 0", folds.again(0), 4);
        edge.glued("slot 0", folds, "2031", "1230");
        edge.is("slot 1", folds.again(1), 4);
        edge.glued("slot 1", folds, "1230", "1302");
    }

    private void keptAnew() {
        edge.of(24, "They are kept: how many SQUARES. UNKNOWN.");
        SquareFolds folds = Due.surface("S412301302");
        folds.keep(0);
        folds.keep(1);
        folds.shear(2);
        edge.is("over what was kept", folds.keep(0), 4);
        folds.shear(2);
        folds.again(1);
        edge.glued("the other slot is as it was", folds, "1230", "1302");
        folds.again(0);
        edge.glued("the last one kept", folds, "2031", "1230");
    }

    private void goneOnFrom() {
        edge.of(25, "UNKNOWN; LATE: none were kept.");
        SquareFolds folds = new SquareFolds();
        for (int slot : new int[] {-1, 2, 3, LEAST, MOST}) {
            edge.refuses("again(" + slot + ")", folds.again(slot), UNKNOWN);
        }
        edge.refuses("again(0) of a new object", folds.again(0), LATE);
        edge.refuses("again(1) of a new object", folds.again(1), LATE);
        edge.is("keep(1)", folds.keep(1), 1);
        edge.refuses("the other slot", folds.again(0), LATE);
        edge.is("one square", folds.again(1), 1);
        folds.keep(0);
        Due.tell(folds, "S412301302");
        edge.is("told, but not yet the surface", folds.again(0), 1);
        folds.surface();
        edge.refuses("slot 0 behind a new surface", folds.again(0), LATE);
        edge.refuses("slot 1 behind a new surface", folds.again(1), LATE);
        edge.of(25, "They are as they were kept: how many SQUARES.");
        folds.keep(1);
        for (int k = 0; k < 3; k++) {
            folds.shear(k);
            folds.trade(0, 3);
            edge.is("again and again", folds.again(1), 4);
            edge.glued("as kept", folds, "1230", "1302");
            edge.is("no doings", folds.about(8), 0);
            edge.is("none to undo", folds.undo(), LATE);
        }
        folds.see(1, 0);
        folds.seed(8);
        folds.again(1);
        edge.is("seen stays", folds.about(9), 1);
        edge.is("the seed stays", folds.seed(0), 8);
        edge.is("the text stays", folds.about(10), 10);
    }
}
