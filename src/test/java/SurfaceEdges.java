/** The edges of promises 1 to 10: the text, the surface, and what is asked of it. */
final class SurfaceEdges {
    private static final int UNKNOWN = SquareFolds.UNKNOWN;
    private static final int BAD = SquareFolds.BAD;
    private static final int LATE = SquareFolds.LATE;
    private static final int FULL = SquareFolds.FULL;
    private static final int NONE = SquareFolds.NONE;
    private static final int LEAST = Integer.MIN_VALUE;
    private static final int MOST = Integer.MAX_VALUE;

    /** One whole surface of each number of squares; the place in the row is that number. */
    static final String[] WHOLE = {"", "S100", "S21001", "S3102210", "S412301302", "S51234010234"};
    /** Five squares, each glued to itself: all is there five times. */
    static final String APART = "S50123401234";
    /** Five squares around one corner of five turns. */
    static final String AROUND = "S50134223014";

    private final Edge edge;

    SurfaceEdges(Edge edge) {
        this.edge = edge;
    }

    void all() {
        newObject();
        lettersThatCanCome();
        twentyLetters();
        lettersComeBehind();
        wiped();
        firstLetter();
        numberOfSquares();
        figuresOfRows();
        whateverCameBehind();
        notAtItsEnd();
        beyondItsEnd();
        textBecomesSurface();
        surfaceLeavesAndTakes();
        surfaceThatIsLate();
        aboutLeastAndMost();
        aboutCounts();
        moves();
        ways();
        partsOfSquares();
        bandsAndHoles();
        names();
        namesOfAllNumberings();
        bandsOfAllNumberings();
    }

    private void newObject() {
        SquareFolds folds = new SquareFolds();
        edge.of(1, "One square, glued to itself.");
        edge.glued("new", folds, "0", "0");
        edge.is("left", folds.go(0, 2), 0);
        edge.is("down", folds.go(0, 4), 0);
        edge.is("pieces", folds.about(1), 1);
        edge.of(1, "At first n is 1.");
        edge.is("about(0)", folds.about(0), 1);
        edge.is("no second square", folds.go(1, 1), UNKNOWN);
        edge.of(1, "6 such at most, none at first");
        edge.is("about(9)", folds.about(9), 0);
        edge.is("unsee()", folds.unsee(), 0);
        edge.of(1, "THE SEED, a long; 0 at first");
        edge.is("seed(1)", folds.seed(1), 0);
        edge.of(1, "`SquareFolds()`");
        edge.is("no letter", folds.about(10), 0);
        edge.is("nothing to wipe", folds.wipe(), 0);
        edge.is("no doing", folds.about(8), 0);
        edge.is("nothing to undo", folds.undo(), LATE);
        edge.is("slot 0", folds.again(0), LATE);
        edge.is("slot 1", folds.again(1), LATE);
        SquareFolds other = Due.surface(APART);
        other.see(1, 0);
        other.seed(9);
        edge.is("objects share nothing", new SquareFolds().about(0), 1);
        edge.is("objects share nothing seen", new SquareFolds().about(9), 0);
        edge.is("objects share no seed", new SquareFolds().seed(0), 0);
    }

    private void lettersThatCanCome() {
        edge.of(2, "A letter (0 .. 255) comes behind THE TEXT: how long it is.");
        for (int letter = 0; letter <= 255; letter++) {
            edge.is("write(" + letter + ")", new SquareFolds().write(letter), 1);
        }
        edge.of(2, "BAD; FULL: there are 20.");
        SquareFolds folds = new SquareFolds();
        // -173, 339, 65619 and the least and 83 would be S, if only the lowest bits counted.
        for (int letter : new int[] {-1, -2, -173, 256, 257, 339, 65619, LEAST, LEAST + 83, MOST}) {
            edge.refuses("write(" + letter + ")", folds.write(letter), BAD);
            edge.is("still empty", folds.about(10), 0);
        }
    }

    private void twentyLetters() {
        edge.of(2, "THE TEXT is letters (20 at most).");
        SquareFolds folds = new SquareFolds();
        for (int length = 1; length <= 20; length++) {
            edge.is("the letter " + length, folds.write('S'), length);
            edge.is("letters then", folds.about(10), length);
        }
        edge.of(2, "BAD; FULL: there are 20.");
        for (int letter : new int[] {0, 'S', 255}) {
            edge.refuses("a letter more", folds.write(letter), FULL);
        }
        edge.is("still 20", folds.about(10), 20);
        edge.of(2, "Of several what is told first.");
        edge.refuses("BAD ahead of FULL", folds.write(256), BAD);
        edge.refuses("BAD ahead of FULL", folds.write(-1), BAD);
        edge.of(3, "THE TEXT is empty: how long it was.");
        edge.is("wipe() of a full text", folds.wipe(), 20);
        for (int length = 1; length <= 20; length++) {
            edge.is("there is room anew", folds.write('5'), length);
        }
    }

    private void lettersComeBehind() {
        edge.of(2, "A letter (0 .. 255) comes behind THE TEXT: how long it is.");
        SquareFolds folds = new SquareFolds();
        Due.tell(folds, "S412301302");
        folds.surface();
        edge.glued("letter by letter", folds, "1230", "1302");
        SquareFolds refused = new SquareFolds();
        edge.of(2, "What is refused changes nothing.");
        for (char letter : "S412301302".toCharArray()) {
            refused.write(letter);
            refused.write(256);
            refused.write(-1);
        }
        edge.is("surface()", refused.surface(), 1);
        edge.glued("beside refused letters", refused, "1230", "1302");
    }

    private void wiped() {
        edge.of(3, "THE TEXT is empty: how long it was.");
        SquareFolds folds = new SquareFolds();
        edge.is("of an empty text", folds.wipe(), 0);
        folds.write('S');
        edge.is("of one letter", folds.wipe(), 1);
        edge.is("twice", folds.wipe(), 0);
        Due.tell(folds, "S3102210");
        edge.is("of eight letters", folds.wipe(), 8);
        edge.is("letters then", folds.about(10), 0);
        edge.is("an empty text is not at its end", folds.fault(), 0);
        folds.write('S');
        edge.is("what was there does not come back", folds.fault(), 1);
        folds.write('3');
        edge.is("nor behind the figure", folds.fault(), 2);
        Due.tell(folds, "S3102210");
        folds.surface();
        folds.wipe();
        edge.glued("the surface stays", folds, "102", "210");
    }

    private int faultOf(String text) {
        SquareFolds folds = new SquareFolds();
        Due.tell(folds, text);
        return folds.fault();
    }

    private void firstLetter() {
        edge.of(4, "FAULT: the place of the first letter by which THE TEXT can be no SURFACE");
        for (char letter = 0; letter <= 255; letter++) {
            boolean isS = letter == 'S';
            edge.is("first " + (int) letter, faultOf("" + letter), isS ? 1 : 0);
            edge.is("first " + (int) letter + ", then a whole one", faultOf(letter + "3102210"), isS ? NONE : 0);
        }
    }

    private void numberOfSquares() {
        edge.of(4, "SQUARES are 0 .. n less 1 (n 1 ..");
        for (char letter = 0; letter <= 255; letter++) {
            boolean isNumber = letter >= '1' && letter <= '5';
            edge.is("second " + (int) letter, faultOf("S" + letter), isNumber ? 2 : 1);
        }
        edge.is("none", faultOf("S0"), 1);
        edge.is("six, though all its figures are there", faultOf("S6012345012345"), 1);
        for (int n = 1; n <= 5; n++) {
            edge.is("a surface of " + n, faultOf(WHOLE[n]), NONE);
        }
    }

    /** Each letter at each place of a whole text: a figure too large, none at all, or one for the second time. */
    private void figuresOfRows() {
        edge.of(4, "(each less than n, each once)");
        for (int n = 1; n <= 5; n++) {
            String whole = WHOLE[n];
            for (int place = 2; place < whole.length(); place++) {
                for (char letter = 0; letter <= 255; letter++) {
                    String text = whole.substring(0, place) + letter + whole.substring(place + 1);
                    edge.is("fault() with " + (int) letter + " at " + place + " of " + whole, faultOf(text),
                        faultWith(whole, n, place, letter));
                }
            }
        }
        edge.is("figures of R come again in U", faultOf("S3012012"), NONE);
    }

    private static int faultWith(String whole, int n, int place, char letter) {
        if (letter == whole.charAt(place)) {
            return NONE;
        }
        if (letter < '0' || letter >= '0' + n) {
            return place;
        }
        // The same figure stands elsewhere in this row, and the later one of both is the fault.
        int start = place < 2 + n ? 2 : 2 + n;
        return Math.max(place, whole.indexOf(letter, start));
    }

    private void whateverCameBehind() {
        edge.of(4, "whatever came behind it (its length set aside)");
        String[] faulty = {"x", "S9", "S33", "S311", "S3102211"};
        for (String text : faulty) {
            int place = text.length() - 1;
            StringBuilder longer = new StringBuilder(text);
            while (longer.length() <= 20) {
                edge.is("fault() of " + longer, faultOf(longer.toString()), place);
                longer.append("S0129".charAt(longer.length() % 5));
            }
        }
        edge.is("the first of two", faultOf("S3992210"), 2);
        edge.is("the first of all", faultOf("R6992210"), 0);
    }

    private void notAtItsEnd() {
        edge.of(4, "its length, if it is only not at its end");
        edge.is("empty", faultOf(""), 0);
        for (int n = 1; n <= 5; n++) {
            for (int length = 0; length < WHOLE[n].length(); length++) {
                String text = WHOLE[n].substring(0, length);
                edge.is("fault() of " + text, faultOf(text), length);
            }
        }
        edge.of(4, "FAULT; NONE.");
        for (int n = 1; n <= 5; n++) {
            edge.is("fault() of " + WHOLE[n], faultOf(WHOLE[n]), NONE);
        }
        SquareFolds folds = Due.surface(WHOLE[5]);
        edge.is("of a text that has become the surface", folds.fault(), NONE);
        folds.shear(0);
        edge.is("and was sheared", folds.fault(), NONE);
    }

    private void beyondItsEnd() {
        edge.of(4, "whatever came behind it (its length set aside)");
        for (int n = 1; n <= 5; n++) {
            for (char letter : new char[] {0, '0', '1', 'S', 255}) {
                edge.is("a letter too many, " + (int) letter, faultOf(WHOLE[n] + letter), 2 + 2 * n);
            }
            String full = (WHOLE[n] + "0".repeat(20)).substring(0, 20);
            edge.is("a full text", faultOf(full), 2 + 2 * n);
        }
    }

    private void textBecomesSurface() {
        edge.of(5, "THE TEXT is THE SURFACE");
        SquareFolds folds = new SquareFolds();
        for (int n : new int[] {5, 1, 4, 2, 3, 5}) {
            Due.tell(folds, WHOLE[n]);
            edge.is("surface() of " + WHOLE[n], folds.surface(), 1);
            edge.glued("of " + n, folds, WHOLE[n].substring(2, 2 + n), WHOLE[n].substring(2 + n));
            edge.is("the last square of " + n, folds.square(n - 1, 0), (1 << n) - 1);
            edge.is("none behind it", folds.square(n, 0), UNKNOWN);
        }
        edge.of(5, "how many PIECES.");
        for (int n = 1; n <= 5; n++) {
            String stay = "01234".substring(0, n);
            Due.tell(folds, "S" + n + stay + stay);
            edge.is("each square alone, " + n, folds.surface(), n);
        }
    }

    private void surfaceLeavesAndTakes() {
        SquareFolds folds = Due.surface("S412301302");
        folds.keep(0);
        folds.keep(1);
        for (int k = 0; k < 14; k++) {
            folds.shear(k % 3);
        }
        for (int k = 0; k < 6; k++) {
            folds.see(11, 0);
        }
        folds.seed(Long.MIN_VALUE);
        edge.of(5, "(THE TEXT itself stays; no DOINGS; what was kept is gone; SEEN, THE SEED stay)");
        edge.is("surface()", folds.surface(), 1);
        edge.glued("as told, not as sheared", folds, "1230", "1302");
        edge.is("the text stays", folds.about(10), 10);
        edge.is("and is whole", folds.fault(), NONE);
        edge.is("no doings", folds.about(8), 0);
        edge.is("none to undo", folds.undo(), LATE);
        edge.is("slot 0 is gone", folds.again(0), LATE);
        edge.is("slot 1 is gone", folds.again(1), LATE);
        edge.is("seen stays", folds.about(9), 6);
        edge.is("which() still asks it", folds.which(), 15);
        edge.is("the seed stays", folds.seed(0), Long.MIN_VALUE);
        edge.is("surface() once more", folds.surface(), 1);
    }

    private void surfaceThatIsLate() {
        edge.of(5, "LATE: a FAULT.");
        String[] faulty = {"", "S", "x", "S0", "S1", "S10", "S101", "S1000", "S6012345012345", "S310221", "S3102211",
            "S31022100", "S3102213", "S5123401023", "S512340102340", "S5123401023400000000"};
        for (String text : faulty) {
            SquareFolds folds = Due.surface("S20110");
            folds.shear(0);
            folds.keep(1);
            Due.tell(folds, text);
            edge.refuses("surface() of " + text, folds.surface(), LATE);
            edge.glued("what was there stays", folds, "01", "10");
            edge.is("its doings stay", folds.about(8), 1);
            edge.is("what was kept stays", folds.again(1), 2);
        }
    }

    private void about(int what, String text, int want) {
        edge.is("about(" + what + ") of " + text, Due.surface(text).about(what), want);
    }

    private void aboutLeastAndMost() {
        edge.of(6, "SQUARES (what = 0), PIECES (1), CORNERS (2), such as are ORDINARY (3), TURNS of the greatest one (4)");
        about(0, "S100", 1);
        about(0, AROUND, 5);
        about(1, AROUND, 1);
        about(1, APART, 5);
        about(2, AROUND, 1);
        about(2, APART, 5);
        about(3, AROUND, 0);
        about(3, APART, 5);
        about(4, AROUND, 5);
        about(4, APART, 1);
        for (int what = 0; what <= 7; what++) {
            about(what, "S100", 1);
        }
        edge.of(6, "ORDINARY is one of one TURN.");
        // Two corners of two turns each are not ordinary.
        about(3, "S401322301", 0);
        about(4, "S401322301", 2);
        about(2, "S401322301", 2);
        edge.of(6, "ROWS (5), BANDS (6), GROUP (7)");
        about(5, "S51234001234", 1);
        about(5, APART, 5);
        about(6, "S50123412340", 1);
        about(6, "S51234001234", 1);
        about(6, APART, 5);
        edge.of(6, "(with that in which each stays)");
        about(7, "S100", 1);
        about(7, APART, 1);
        about(7, "S21001", 2);
        about(7, "S50134212034", 60);
        about(7, "S50124312304", 120);
        about(7, "S51234010234", 120);
        SquareFolds folds = Due.surface("S51234010234");
        edge.is("the greatest group", folds.about(7), 120);
        Due.tell(folds, APART);
        folds.surface();
        edge.is("the least one behind it", folds.about(7), 1);
        Due.tell(folds, "S21001");
        folds.surface();
        edge.is("and one of two", folds.about(7), 2);
    }

    private void aboutCounts() {
        edge.of(6, "DOINGS (8), SEEN (9), letters of THE TEXT (10)");
        SquareFolds folds = Due.surface("S21001");
        for (int k = 1; k <= 16; k++) {
            folds.shear(0);
            folds.see(1, 0);
            edge.is("doings behind " + k, folds.about(8), Math.min(k, 14));
            edge.is("seen behind " + k, folds.about(9), Math.min(k, 6));
        }
        edge.is("letters", folds.about(10), 6);
        folds.wipe();
        edge.is("no letters", folds.about(10), 0);
        edge.of(6, "BAD.");
        for (int what : new int[] {-1, -10, 11, 12, 16, 256, LEAST, MOST}) {
            edge.refuses("about(" + what + ")", folds.about(what), BAD);
        }
    }

    private void moves() {
        edge.of(7, "A MOVE goes from a SQUARE to the right (1), to the left (2), up (3), down (4).");
        SquareFolds row = Due.surface("S51234001234");
        edge.is("right of the last", row.go(4, 1), 0);
        edge.is("left of the first", row.go(0, 2), 4);
        edge.is("up is itself", row.go(4, 3), 4);
        edge.is("down is itself", row.go(0, 4), 0);
        SquareFolds column = Due.surface("S50123412340");
        edge.is("above the last", column.go(4, 3), 0);
        edge.is("below the first", column.go(0, 4), 4);
        edge.is("right is itself", column.go(4, 1), 4);
        edge.is("left is itself", column.go(0, 2), 0);
        edge.of(7, "UNKNOWN; BAD: move (1 .. 4).");
        for (int n = 1; n <= 5; n++) {
            SquareFolds folds = Due.surface(WHOLE[n]);
            for (int square : new int[] {-1, n, n + 1, 5, 32, LEAST, MOST}) {
                edge.refuses("go(" + square + ", 1) of " + n, folds.go(square, 1), UNKNOWN);
            }
            for (int move : new int[] {0, 5, -1, 6, LEAST, MOST}) {
                edge.refuses("go(" + (n - 1) + ", " + move + ")", folds.go(n - 1, move), BAD);
            }
            edge.is("the last of " + n, folds.go(n - 1, 1), WHOLE[n].charAt(1 + n) - '0');
        }
        edge.of(7, "Of several what is told first.");
        edge.refuses("go(5, 0)", row.go(5, 0), UNKNOWN);
        edge.refuses("go(-1, 5)", row.go(-1, 5), UNKNOWN);
    }

    private void ways() {
        edge.of(8, "UNKNOWN; BAD: way (1 .. 4 figures 1 .. 4).");
        SquareFolds folds = new SquareFolds();
        for (int way = -50; way <= 50000; way++) {
            if (way % 400 == 0) {
                folds = new SquareFolds();
            }
            if (String.valueOf(way).matches("[1-4]{1,4}")) {
                edge.is("walk(0, " + way + ")", folds.walk(0, way), 0);
            } else {
                edge.refuses("walk(0, " + way + ")", folds.walk(0, way), BAD);
            }
        }
        for (int way : new int[] {111111, 1111111111, 2111111111, -1111, -1, LEAST, MOST}) {
            edge.refuses("walk(0, " + way + ")", folds.walk(0, way), BAD);
        }
        for (int n = 1; n <= 5; n++) {
            for (int square : new int[] {-1, n, 5, LEAST, MOST}) {
                edge.refuses("walk(" + square + ", 1) of " + n, Due.surface(WHOLE[n]).walk(square, 1), UNKNOWN);
            }
            edge.is("the last of " + n, Due.surface(WHOLE[n]).walk(n - 1, 12), n - 1);
        }
        edge.of(8, "Of several what is told first.");
        edge.refuses("walk(1, 0)", folds.walk(1, 0), UNKNOWN);
        edge.of(8, "a WAY (1 .. 4 MOVES, as figures 1 .. 4, the first one first)");
        SquareFolds ell = Due.surface(WHOLE[3]);
        edge.is("right, then up", ell.walk(2, 13), 0);
        edge.is("up, then right", ell.walk(2, 31), 1);
        SquareFolds row = Due.surface("S51234001234");
        for (int[] way : new int[][] {{1, 1}, {11, 2}, {111, 3}, {1111, 4}, {2, 4}, {22, 3}, {222, 2}, {2222, 1}}) {
            edge.is("walk(0, " + way[0] + ")", row.walk(0, way[0]), way[1]);
        }
        edge.is("once around and on", row.walk(3, 1111), 2);
    }

    private void square(int what, String text, int square, int want) {
        edge.is("square(" + square + ", " + what + ") of " + text, Due.surface(text).square(square, what), want);
    }

    private void partsOfSquares() {
        edge.of(9, "Of a SQUARE its PIECE (what = 0: bits), C (1), TURNS of the CORNER in whose ring it is (2), its ROW (3: bits)");
        for (int i = 0; i < 5; i++) {
            square(0, APART, i, 1 << i);
            square(0, AROUND, i, 31);
            square(1, APART, i, i);
            square(2, APART, i, 1);
            square(2, AROUND, i, 5);
            square(3, APART, i, 1 << i);
            square(3, "S51234001234", i, 31);
        }
        edge.of(9, "TURNED ROUND: right, up, left, down, one after the other");
        square(1, WHOLE[3], 0, 2);
        square(1, WHOLE[3], 2, 1);
        square(1, WHOLE[3], 1, 0);
        edge.of(9, "UNKNOWN; BAD.");
        for (int n = 1; n <= 5; n++) {
            SquareFolds folds = Due.surface(WHOLE[n]);
            for (int square : new int[] {-1, n, 5, 32, LEAST, MOST}) {
                edge.refuses("square(" + square + ", 0) of " + n, folds.square(square, 0), UNKNOWN);
            }
            for (int what : new int[] {-1, 6, 7, LEAST, MOST}) {
                edge.refuses("square(" + (n - 1) + ", " + what + ")", folds.square(n - 1, what), BAD);
            }
        }
        edge.of(9, "Of several what is told first.");
        edge.refuses("square(1, 6)", new SquareFolds().square(1, 6), UNKNOWN);
    }

    private void bandsAndHoles() {
        edge.of(9, "(one that is CONTINUED by none, and continues none, is one alone)");
        // The lower row of the L has corners that are not ordinary, and so has the square above it.
        square(4, WHOLE[3], 0, 3);
        square(4, WHOLE[3], 1, 3);
        square(4, WHOLE[3], 2, 4);
        for (int i = 0; i < 5; i++) {
            square(4, APART, i, 1 << i);
        }
        edge.of(9, "all ROWS that are CONTINUED one by the other, again and again, in any row, are one BAND");
        // Columns of two squares and more, told upward and downward, are one band each.
        for (String column : new String[] {"S20110", "S3012120", "S3012201", "S401231230", "S401233012", "S50123412340", "S50123440123"}) {
            int n = column.charAt(1) - '0';
            for (int i = 0; i < n; i++) {
                square(4, column, i, (1 << n) - 1);
            }
            about(6, column, 1);
        }
        // A row that is continued by itself; and one that goes on without being gone on from.
        square(4, "S51234001234", 2, 31);
        square(4, "S410232130", 0, 3);
        square(4, "S410232130", 2, 12);
        square(4, "S410232130", 3, 12);
        edge.of(9, "if C(i) is i for each SQUARE i of it");
        // Of the row 0 .. 3 two squares have ordinary corners, which is not enough; 4 lies above 3.
        square(4, "S51230401243", 0, 15);
        square(4, "S51230401243", 4, 16);
        edge.of(9, "HOLES of a PIECE: half of what 2 and all TURNS less 1 of its CORNERS come to together.");
        square(5, "S100", 0, 1);
        square(5, APART, 4, 1);
        square(5, WHOLE[3], 2, 2);
        // Two corners of two turns count as one of three.
        square(5, "S401322301", 0, 2);
        square(5, AROUND, 4, 3);
        // Of two pieces each has its own.
        square(5, "S51023421043", 0, 2);
        square(5, "S51023421043", 4, 1);
    }

    private void name(String text, int square, int least, long want) {
        edge.is("name(" + square + ", " + least + ") of " + text, Due.surface(text).name(square, least), want);
    }

    private void names() {
        edge.of(10, "NAME of the PIECE of a SQUARE from it (least = 0), the least (1), as a number.");
        name("S100", 0, 0, 0);
        name("S100", 0, 1, 0);
        name(APART, 4, 0, 0);
        name(APART, 4, 1, 0);
        // 01 10 loses its first figure as a number.
        name("S20110", 1, 0, 110);
        name("S51234014023", 1, 0, 1342024310);
        edge.of(10, "NAME of a PIECE: the least from any SQUARE of it.");
        name(WHOLE[3], 0, 0, 102210);
        name(WHOLE[3], 1, 0, 102021);
        name(WHOLE[3], 2, 0, 21102);
        for (int i = 0; i < 3; i++) {
            name(WHOLE[3], i, 1, 21102);
        }
        // The other piece of two squares would have a lesser one.
        name("S410230132", 0, 1, 1001);
        name("S410230132", 3, 1, 110);
        edge.of(10, "first that to its right, then that above it, if it has none yet, the next number");
        name("S3120201", 0, 0, 120201);
        name("S3201120", 0, 0, 120201);
        edge.of(10, "UNKNOWN; BAD.");
        for (int n = 1; n <= 5; n++) {
            SquareFolds folds = Due.surface(WHOLE[n]);
            for (int square : new int[] {-1, n, 5, LEAST, MOST}) {
                edge.refuses("name(" + square + ", 0) of " + n, folds.name(square, 0), UNKNOWN);
                edge.refuses("name(" + square + ", 1) of " + n, folds.name(square, 1), UNKNOWN);
            }
            for (int least : new int[] {-1, 2, LEAST, MOST}) {
                edge.refuses("name(" + (n - 1) + ", " + least + ")", folds.name(n - 1, least), BAD);
            }
        }
        edge.of(10, "Of several what is told first.");
        edge.refuses("name(1, 2)", new SquareFolds().name(1, 2), UNKNOWN);
    }

    /** The same surface with its squares called by other numbers: i is called by the figure at i. */
    private static SquareFolds called(String text, String numbers) {
        int n = numbers.length();
        char[] told = text.toCharArray();
        for (int i = 0; i < n; i++) {
            int number = numbers.charAt(i) - '0';
            told[2 + number] = numbers.charAt(text.charAt(2 + i) - '0');
            told[2 + n + number] = numbers.charAt(text.charAt(2 + n + i) - '0');
        }
        return Due.surface(new String(told));
    }

    private void namesOfAllNumberings() {
        edge.of(10, "a name for a piece that does not hang on how squares are numbered");
        for (String numbers : Due.rows(3)) {
            SquareFolds folds = called(WHOLE[3], numbers);
            for (int i = 0; i < 3; i++) {
                edge.is("the least, " + i + " of the L called " + numbers, folds.name(i, 1), 21102);
            }
            long[] from = {102210, 102021, 21102};
            for (int i = 0; i < 3; i++) {
                edge.is("from " + i + " of the L called " + numbers, folds.name(numbers.charAt(i) - '0', 0), from[i]);
            }
        }
    }

    private void bandsOfAllNumberings() {
        edge.of(9, "A ROW is CONTINUED by that in which U(i) lies, i any SQUARE of it, if C(i) is i for each SQUARE i of it.");
        for (String numbers : Due.rows(4)) {
            // An L whose column has three squares: its row of two is a band, the two above it another one.
            SquareFolds folds = called("S410232130", numbers);
            int[] bits = new int[4];
            for (int i = 0; i < 4; i++) {
                bits[i] = 1 << numbers.charAt(i) - '0';
            }
            for (int i = 0; i < 4; i++) {
                edge.is("band of " + i + " called " + numbers, folds.square(numbers.charAt(i) - '0', 4),
                    i < 2 ? bits[0] | bits[1] : bits[2] | bits[3]);
            }
            edge.is("bands called " + numbers, folds.about(6), 2);
        }
        for (String numbers : Due.rows(3)) {
            edge.is("bands of the L called " + numbers, called(WHOLE[3], numbers).about(6), 2);
        }
    }
}
