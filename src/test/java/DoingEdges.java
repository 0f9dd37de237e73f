/** The edges of promises 11 to 16: doings, orbits, what is judged. */
final class DoingEdges {
    private static final int UNKNOWN = SquareFolds.UNKNOWN;
    private static final int BAD = SquareFolds.BAD;
    private static final int LATE = SquareFolds.LATE;
    private static final int NONE = SquareFolds.NONE;
    private static final int LEAST = Integer.MIN_VALUE;
    private static final int MOST = Integer.MAX_VALUE;

    /** Four squares on which no two doings come to the same. */
    private static final String FOUR = "S412301302";
    /** A row of two, a column of two, a square alone. */
    private static final String THREE = "S51023401324";

    private final Edge edge;

    DoingEdges(Edge edge) {
        this.edge = edge;
    }

    void all() {
        shears();
        shearsComeAround();
        trades();
        tradesThatAreRefused();
        undone();
        fourteenDoings();
        nothingToUndo();
        orbits();
        orbitsOneAfterTheOther();
        orbitsThatAreRefused();
        alikes();
        judgedNumbers();
        judgedPlaces();
        judgedShearsAndTrades();
        judgedPieces();
        judgedCorners();
        judgedHoles();
        judgedAfterDoings();
    }

    private void shears() {
        edge.of(11, "SIDE: U(i) becomes what was U of the SQUARE left of i");
        SquareFolds folds = Due.surface("S412303210");
        edge.is("corners then", folds.shear(0), folds.about(2));
        edge.glued("SIDE", folds, "1230", "0321");
        folds = Due.surface(FOUR);
        folds.shear(0);
        edge.glued("SIDE, where neither row is its own opposite", folds, "1230", "2130");
        edge.of(11, "UPWARD: R(i) becomes what was R of the SQUARE below i");
        folds = Due.surface("S412300132");
        edge.is("corners then", folds.shear(1), folds.about(2));
        edge.glued("UPWARD", folds, "1203", "0132");
        folds = Due.surface(FOUR);
        folds.shear(1);
        edge.glued("UPWARD, where neither row is its own opposite", folds, "3102", "1302");
        edge.of(11, "QUARTER: R(i) becomes the SQUARE below i, U(i) what was R(i)");
        folds = Due.surface(FOUR);
        edge.is("corners then", folds.shear(2), folds.about(2));
        edge.glued("QUARTER", folds, "2031", "1230");
        edge.of(11, "SIDE (how = 0), UPWARD (1), QUARTER (2): CORNERS then. BAD: how.");
        for (int how = 0; how <= 2; how++) {
            edge.is("one corner, " + how, Due.surface(SurfaceEdges.AROUND).shear(how), 1);
            edge.is("five corners, " + how, Due.surface(SurfaceEdges.APART).shear(how), 5);
            edge.is("one square, " + how, new SquareFolds().shear(how), 1);
        }
        for (int how : new int[] {-1, 3, 4, LEAST, MOST}) {
            edge.refuses("shear(" + how + ")", folds.shear(how), BAD);
        }
        edge.glued("refused", folds, "2031", "1230");
        edge.is("one doing", folds.about(8), 1);
    }

    private void shearsComeAround() {
        edge.of(11, "SIDE (how = 0), UPWARD (1), QUARTER (2): CORNERS then. BAD: how.");
        SquareFolds folds = Due.surface(FOUR);
        String before = Trace.gluing(folds);
        for (int how : new int[] {2, 0, 1}) {
            // A row of four is sheared into itself by four; the column 0 1 3 2 as well.
            for (int k = 1; k <= 4; k++) {
                folds.shear(how);
                edge.holds("shear(" + how + ") " + k + " times", Trace.gluing(folds).equals(before) == (k == 4));
            }
        }
    }

    private void trades() {
        edge.of(12, "TRADED: 1. UNKNOWN: both; BAD: it is one.");
        SquareFolds folds = Due.surface(FOUR);
        edge.is("the first and the last", folds.trade(0, 3), 1);
        // R was the ring 0 1 2 3 and is 3 1 2 0; U was 0 1 3 2 and is 3 1 0 2.
        edge.glued("0 and 3", folds, "3201", "2031");
        edge.is("and back, told the other way", folds.trade(3, 0), 1);
        edge.glued("back", folds, "1230", "1302");
        edge.is("both are doings", folds.about(8), 2);
        edge.of(12, "both are called by the other one's number in R and in U, everywhere");
        SquareFolds apart = Due.surface(THREE);
        edge.is("of two pieces", apart.trade(1, 2), 1);
        edge.glued("1 and 2", apart, "21034", "03214");
        SquareFolds alone = Due.surface(SurfaceEdges.APART);
        edge.is("squares that stay", alone.trade(0, 4), 1);
        edge.glued("no trace but a doing", alone, "01234", "01234");
        edge.is("a doing", alone.about(8), 1);
    }

    private void tradesThatAreRefused() {
        edge.of(12, "TRADED: 1. UNKNOWN: both; BAD: it is one.");
        for (int n = 1; n <= 5; n++) {
            SquareFolds folds = Due.surface(SurfaceEdges.WHOLE[n]);
            for (int square : new int[] {-1, n, 5, LEAST, MOST}) {
                edge.refuses("trade(" + square + ", 0) of " + n, folds.trade(square, 0), UNKNOWN);
                edge.refuses("trade(0, " + square + ") of " + n, folds.trade(0, square), UNKNOWN);
                edge.refuses("trade(" + square + ", -7)", folds.trade(square, -7), UNKNOWN);
            }
            for (int i = 0; i < n; i++) {
                edge.refuses("trade(" + i + ", " + i + ")", folds.trade(i, i), BAD);
            }
            edge.is("no doing", folds.about(8), 0);
        }
        edge.of(12, "Of several what is told first.");
        for (int square : new int[] {-1, 1, LEAST, MOST}) {
            edge.refuses("trade(" + square + ", " + square + ")", new SquareFolds().trade(square, square), UNKNOWN);
        }
    }

    private void undone() {
        edge.of(13, "The last DOING is undone: how many are left.");
        SquareFolds folds = Due.surface(FOUR);
        for (int how = 0; how < 3; how++) {
            folds.shear(how);
            edge.is("of one", folds.undo(), 0);
            edge.glued("shear " + how, folds, "1230", "1302");
        }
        folds.trade(0, 3);
        edge.is("of one trade", folds.undo(), 0);
        edge.glued("trade", folds, "1230", "1302");
        folds.shear(2);
        folds.trade(1, 2);
        edge.is("of two", folds.undo(), 1);
        edge.glued("the quarter is left", folds, "2031", "1230");
        folds.trade(1, 2);
        folds.trade(2, 1);
        edge.is("another instead", folds.undo(), 2);
        edge.is("and", folds.undo(), 1);
        edge.glued("the quarter is left", folds, "2031", "1230");
        edge.is("and", folds.undo(), 0);
        edge.glued("as told", folds, "1230", "1302");
    }

    /** Does so many doings; what the surface was ahead of each one stands in the row. */
    private static String[] doMany(SquareFolds folds, int count) {
        String[] were = new String[count + 1];
        for (int k = 0; k < count; k++) {
            were[k] = Trace.gluing(folds);
            if (k % 3 == 2) {
                folds.trade(k % 4, (k + 1) % 4);
            } else {
                folds.shear(k % 5 % 3);
            }
        }
        were[count] = Trace.gluing(folds);
        return were;
    }

    private void fourteenDoings() {
        edge.of(13, "(14 at most; when it is full, the first one is forgotten)");
        for (int count : new int[] {1, 13, 14, 15, 16, 28, 29}) {
            SquareFolds folds = Due.surface(FOUR);
            String[] were = doMany(folds, count);
            int kept = Math.min(count, 14);
            edge.is("doings of " + count, folds.about(8), kept);
            for (int left = kept - 1; left >= 0; left--) {
                edge.is("undo() of " + count, folds.undo(), left);
                edge.holds("as it was, " + left + " are left of " + count,
                    Trace.gluing(folds).equals(were[count - kept + left]));
            }
            edge.refuses("undo() of what is forgotten, " + count, folds.undo(), LATE);
            edge.holds("it stays done, " + count, Trace.gluing(folds).equals(were[count - kept]));
        }
        SquareFolds folds = Due.surface(FOUR);
        String[] were = doMany(folds, 15);
        folds.undo();
        folds.shear(0);
        edge.is("one undone, one done", folds.about(8), 14);
        folds.undo();
        edge.holds("nothing more was forgotten", Trace.gluing(folds).equals(were[14]));
        for (int left = 12; left >= 0; left--) {
            folds.undo();
        }
        edge.holds("but the first one", Trace.gluing(folds).equals(were[1]));
    }

    private void nothingToUndo() {
        edge.of(13, "LATE: there is none.");
        SquareFolds folds = new SquareFolds();
        edge.refuses("of a new object", folds.undo(), LATE);
        Due.tell(folds, FOUR);
        folds.surface();
        edge.refuses("of a new surface", folds.undo(), LATE);
        folds.shear(3);
        folds.trade(0, 0);
        folds.trade(0, 4);
        edge.refuses("of refused ones", folds.undo(), LATE);
        folds.judge(1, 1000);
        folds.drawn(20);
        folds.orbit(0, 0);
        edge.refuses("of what was asked alone", folds.undo(), LATE);
        edge.glued("as told", folds, "1230", "1302");
        folds.shear(0);
        folds.undo();
        edge.refuses("twice", folds.undo(), LATE);
        folds.keep(0);
        folds.shear(0);
        folds.again(0);
        edge.refuses("of one that is gone on from", folds.undo(), LATE);
        folds.shear(0);
        folds.surface();
        edge.refuses("of one ahead of the surface", folds.undo(), LATE);
    }

    private void orbit(String text, int square, int... want) {
        SquareFolds folds = Due.surface(text);
        for (int what = 0; what < 3; what++) {
            edge.is("orbit(" + square + ", " + what + ") of " + text, folds.orbit(square, what), want[what]);
        }
    }

    private void orbits() {
        edge.of(14, "ORBIT of the PIECE of a SQUARE: how many NAMES (what = 0), CUSPS (1), WIDEST (2).");
        orbit("S100", 0, 1, 1, 1);
        orbit(SurfaceEdges.APART, 4, 1, 1, 1);
        // A row of 2, 3, 5 squares comes to its own shears, one ring, and to the column.
        orbit("S21001", 0, 3, 2, 2);
        orbit("S3120012", 0, 4, 2, 3);
        orbit("S51234001234", 0, 6, 2, 5);
        // A row of four comes to two rows of two besides, unless these lie straight on one another.
        orbit("S412300123", 0, 6, 3, 4);
        orbit("S410322301", 0, 1, 1, 1);
        orbit("S3102210", 0, 3, 2, 2);
        // The greatest of five squares.
        orbit("S50124313402", 0, 24, 6, 6);
        orbit("S51234010234", 0, 18, 5, 6);
        edge.of(14, "ORBIT of a PIECE: its NAME, and all NAMES that come of it by SIDE and UPWARD");
        SquareFolds folds = Due.surface(THREE);
        edge.is("a piece of two", folds.orbit(0, 0), 3);
        edge.is("the single square", folds.orbit(4, 0), 1);
        edge.is("its cusps", folds.orbit(4, 1), 1);
        edge.is("the piece of two again", folds.orbit(3, 0), 3);
        edge.is("its widest", folds.orbit(3, 2), 2);
    }

    /** Of each orbit no trace is left in the next one, be it greater or less. */
    private void orbitsOneAfterTheOther() {
        edge.of(14, "CUSPS: rings into which SIDE puts these NAMES (each to that of what it makes); WIDEST: how many NAMES the greatest one has.");
        String[] texts = {"S100", "S21001", "S3120012", "S412300123", "S51234001234", "S51234010234", "S50124313402",
            "S412033102", "S51243030241", "S50342120413", "S53104224310"};
        int[][] want = {{1, 1, 1}, {3, 2, 2}, {4, 2, 3}, {6, 3, 4}, {6, 2, 5}, {18, 5, 6}, {24, 6, 6},
            {4, 2, 3}, {12, 5, 4}, {12, 5, 4}, {24, 6, 6}};
        for (int one = 0; one < texts.length; one++) {
            for (int other = 0; other < texts.length; other++) {
                SquareFolds folds = Due.surface(texts[one]);
                folds.orbit(0, 0);
                Due.tell(folds, texts[other]);
                folds.surface();
                for (int what = 0; what < 3; what++) {
                    edge.is("orbit(0, " + what + ") of " + texts[other] + " behind " + texts[one],
                        folds.orbit(0, what), want[other][what]);
                }
            }
        }
    }

    private void orbitsThatAreRefused() {
        edge.of(14, "UNKNOWN; BAD.");
        for (int n = 1; n <= 5; n++) {
            SquareFolds folds = Due.surface(SurfaceEdges.WHOLE[n]);
            for (int square : new int[] {-1, n, 5, LEAST, MOST}) {
                edge.refuses("orbit(" + square + ", 0) of " + n, folds.orbit(square, 0), UNKNOWN);
            }
            for (int what : new int[] {-1, 3, LEAST, MOST}) {
                edge.refuses("orbit(" + (n - 1) + ", " + what + ")", folds.orbit(n - 1, what), BAD);
            }
            edge.holds("the last of " + n, folds.orbit(n - 1, 0) > 0);
        }
        edge.of(14, "Of several what is told first.");
        edge.refuses("orbit(1, 3)", new SquareFolds().orbit(1, 3), UNKNOWN);
    }

    private void alikes() {
        edge.of(15, "1 if the PIECE of another SQUARE has the same NAME as that of a SQUARE (how = 0), one that is in its ORBIT (1), 0.");
        SquareFolds folds = Due.surface(THREE);
        for (int i = 0; i < 5; i++) {
            edge.is("itself, by name, " + i, folds.alike(i, i, 0), 1);
            edge.is("itself, by orbit, " + i, folds.alike(i, i, 1), 1);
        }
        edge.is("of one piece", folds.alike(2, 3, 0), 1);
        edge.is("a row and a column", folds.alike(0, 3, 0), 0);
        edge.is("one comes to the other", folds.alike(0, 3, 1), 1);
        edge.is("two squares and one", folds.alike(1, 4, 1), 0);
        edge.is("one square and two", folds.alike(4, 1, 1), 0);
        edge.is("all alone", Due.surface(SurfaceEdges.APART).alike(0, 4, 0), 1);
        edge.is("unlike numbers, the same name", Due.surface("S410320123").alike(1, 2, 0), 1);
        edge.of(15, "UNKNOWN: both; BAD: how.");
        for (int n = 1; n <= 5; n++) {
            folds = Due.surface(SurfaceEdges.WHOLE[n]);
            for (int square : new int[] {-1, n, 5, LEAST, MOST}) {
                edge.refuses("alike(" + square + ", 0, 0) of " + n, folds.alike(square, 0, 0), UNKNOWN);
                edge.refuses("alike(0, " + square + ", 1) of " + n, folds.alike(0, square, 1), UNKNOWN);
                edge.refuses("alike(" + square + ", " + square + ", 0)", folds.alike(square, square, 0), UNKNOWN);
            }
            for (int how : new int[] {-1, 2, LEAST, MOST}) {
                edge.refuses("alike(0, 0, " + how + ")", folds.alike(0, n - 1, how), BAD);
            }
        }
        edge.of(15, "Of several what is told first.");
        edge.refuses("alike(1, 0, 2)", new SquareFolds().alike(1, 0, 2), UNKNOWN);
        edge.refuses("alike(0, 1, 2)", new SquareFolds().alike(0, 1, 2), UNKNOWN);
    }

    private void judgedNumbers() {
        edge.of(16, "JUDGED; NONE. BAD: n, row (0 or more, 4 n figures at most).");
        SquareFolds folds = Due.surface(FOUR);
        for (int n : new int[] {0, 5, -1, LEAST, MOST}) {
            edge.refuses("judge(" + n + ", 1000)", folds.judge(n, 1000), BAD);
            edge.refuses("judge(" + n + ", 0)", folds.judge(n, 0), BAD);
        }
        long power = 1;
        long shears = 0;
        for (int n = 1; n <= 4; n++) {
            power *= 10000;
            shears = shears * 10000 + 1000;
            edge.is("the least row of " + n, folds.judge(n, 0), 0);
            edge.is("the greatest row of " + n, folds.judge(n, power - 1), 0);
            edge.is(n + " shears", folds.judge(n, shears), NONE);
            edge.refuses("a figure more than " + n, folds.judge(n, power), BAD);
            edge.refuses("a doing more than " + n, folds.judge(n, n < 4 ? shears * 10000 + 1000 : power * 10), BAD);
            edge.refuses("less than 0", folds.judge(n, -1), BAD);
            edge.refuses("far less than 0", folds.judge(n, -shears), BAD);
            edge.refuses("the least long", folds.judge(n, Long.MIN_VALUE), BAD);
            edge.refuses("the greatest long", folds.judge(n, Long.MAX_VALUE), BAD);
        }
        edge.refuses("no shear, though it would be one as an int", folds.judge(1, 1000 + (1L << 32)), BAD);
        edge.refuses("nor are these two", folds.judge(2, 10001000 + (1L << 32)), BAD);
    }

    private void judgedPlaces() {
        edge.of(16, "the first doing's the highest of row");
        SquareFolds folds = Due.surface(THREE);
        edge.is("a trade, then so", folds.judge(2, 40125020L), NONE);
        edge.is("so, then a trade", folds.judge(2, 50204012L), 0);
        edge.of(16, "the place of the first that can not be (or is not so); NONE: none.");
        for (int n = 1; n <= 4; n++) {
            for (int place = 0; place < n; place++) {
                long row = 0;
                long twice = 0;
                for (int k = 0; k < n; k++) {
                    row = row * 10000 + (k == place ? 5040 : 5010);
                    twice = twice * 10000 + (k >= place ? 8000 : 3000);
                }
                edge.is("not so at " + place + " of " + n, folds.judge(n, row), place);
                edge.is("can not be from " + place + " of " + n, folds.judge(n, twice), place);
            }
        }
        edge.is("figures that are not told are 0", folds.judge(2, 1000), 0);
        edge.is("nor those between", folds.judge(3, 100000001000L), 1);
    }

    private void can(SquareFolds folds, String told, boolean can) {
        edge.is("judge(1, " + told + ")", folds.judge(1, Long.parseLong(told)), can ? NONE : 0);
        edge.is("judge(4, " + told + " behind shears)", folds.judge(4, Long.parseLong("100020003000" + told)), can ? NONE : 3);
    }

    private void judgedShearsAndTrades() {
        SquareFolds folds = Due.surface("S3120012");
        edge.of(16, "(1, 0, 0, 0: SIDE; 2, 0, 0, 0: UPWARD; 3, 0, 0, 0: QUARTER;");
        for (int kind = 1; kind <= 3; kind++) {
            can(folds, kind + "000", true);
            for (String rest : new String[] {"001", "010", "100", "009", "090", "900"}) {
                can(folds, kind + rest, false);
            }
        }
        for (String none : new String[] {"0000", "0001", "0100", "0999", "8000", "8010", "9000", "9999"}) {
            can(folds, none, false);
        }
        edge.of(16, "4, 0, two SQUARES (unlike): TRADED;");
        for (int one = 0; one <= 9; one++) {
            for (int other = 0; other <= 9; other++) {
                can(folds, "40" + one + other, one < 3 && other < 3 && one != other);
                can(folds, "41" + one + other, false);
            }
        }
        edge.is("one square alone", new SquareFolds().judge(1, 4001), 0);
    }

    private void judgedPieces() {
        edge.of(16, "5, two SQUARES, 0: they are in one PIECE;");
        SquareFolds folds = Due.surface("S410230132");
        for (int one = 0; one <= 9; one++) {
            for (int other = 0; other <= 9; other++) {
                can(folds, "5" + one + other + "0", one < 4 && other < 4 && one / 2 == other / 2);
                can(folds, "5" + one + other + "1", false);
            }
        }
    }

    private void judgedCorners() {
        edge.of(16, "6, 0, 0, v: there are v CORNERS that are ORDINARY, at least;");
        SquareFolds none = Due.surface(SurfaceEdges.AROUND);
        SquareFolds two = Due.surface("S51234010234");
        SquareFolds five = Due.surface(SurfaceEdges.APART);
        for (int v = 0; v <= 9; v++) {
            can(none, "600" + v, v == 0);
            can(two, "600" + v, v <= 2);
            can(five, "600" + v, v <= 5);
            can(five, "601" + v, false);
            can(five, "610" + v, false);
        }
    }

    private void judgedHoles() {
        edge.of(16, "7, a SQUARE, 0, v: its PIECE has v HOLES):");
        // An L of two holes, and two squares of one.
        SquareFolds folds = Due.surface("S51023421043");
        SquareFolds three = Due.surface(SurfaceEdges.AROUND);
        for (int v = 0; v <= 9; v++) {
            for (int square = 0; square <= 9; square++) {
                can(folds, "7" + square + "0" + v, square < 5 && v == (square < 3 ? 2 : 1));
                can(folds, "7" + square + "1" + v, false);
            }
            can(three, "740" + v, v == 3);
            edge.is("one square", new SquareFolds().judge(1, 7000 + v), v == 1 ? NONE : 0);
            edge.is("no second one", new SquareFolds().judge(1, 7100 + v), 0);
        }
    }

    private void judgedAfterDoings() {
        edge.of(16, "JUDGED: n doings (1 .. 4), told as four figures each");
        SquareFolds folds = Due.surface(THREE);
        edge.is("not yet", folds.judge(1, 5020), 0);
        edge.is("one trade", folds.judge(2, 40125020L), NONE);
        edge.is("the same trade twice", folds.judge(3, 401240125020L), 2);
        edge.is("two trades", folds.judge(3, 401240245040L), NONE);
        edge.is("three doings ahead", folds.judge(4, 4012300040245040L), NONE);
        edge.is("what was judged is not done", folds.judge(1, 5020), 0);
        edge.glued("nothing is changed", folds, "10234", "01324");
        edge.is("no doing", folds.about(8), 0);
    }
}
