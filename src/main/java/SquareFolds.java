/**
 * Surfaces from glued squares. The document's numbered promises say what each call answers.
 *
 * <p>Rows of squares are held as figures inside one int (see Row) and sets of squares as bits. So a
 * surface is copied without making an object, and looking a square up needs no array's index.
 */
public final class SquareFolds {
    public static final int UNKNOWN = -1, BAD = -2, LATE = -3, FULL = -4, NONE = -9;

    private static final int MOST_SQUARES = 5;
    private static final int MOST_DRAWN = 20;
    private static final int MOST_JUDGED = 4;
    /** Ten to the four figures of one told doing. */
    private static final int TOLD = 10000;
    private static final long SEED_TIMES = 6364136223846793005L;
    private static final long SEED_AND = 1442695040888963407L;

    private static final int SIDE = 0;
    private static final int UPWARD = 1;
    private static final int QUARTER = 2;

    private final Letters text = new Letters();
    private final Gluing now = new Gluing();
    private final Gluing trial = new Gluing();
    private final Past past = new Past();
    private final Slots slots = new Slots();
    private final Sightings sightings = new Sightings();
    private final NameOrbit nameOrbit = new NameOrbit();
    private final Distinct turns = new Distinct();
    private final Fraction fraction = new Fraction();
    private long seedNow = 0;

    public SquareFolds() {
    }

    // ---- the surface

    public int write(int letter) {
        if (letter < 0 || letter > 255) {
            return BAD;
        }
        return text.add(letter) ? text.length : FULL;
    }

    public int wipe() {
        int was = text.length;
        text.length = 0;
        return was;
    }

    public int fault() {
        return text.firstFault();
    }

    public int surface() {
        if (text.firstFault() != NONE) {
            return LATE;
        }
        int squares = text.figure(1);
        now.become(squares, text.rowFrom(2, squares), text.rowFrom(2 + squares, squares));
        past.count = 0;
        slots.clear();
        return now.pieces(now.all());
    }

    public int about(int what) {
        switch (what) {
            case 0: return now.squares;
            case 1: return now.pieces(now.all());
            case 2: return now.corners();
            case 3: return now.ordinaryCorners();
            case 4: return now.mostTurns();
            case 5: return now.rows();
            case 6: return now.bands();
            case 7: return groupSize();
            case 8: return past.count;
            case 9: return sightings.count;
            case 10: return text.length;
            default: return BAD;
        }
    }

    public int go(int square, int move) {
        if (!now.has(square)) {
            return UNKNOWN;
        }
        return move < 1 || move > 4 ? BAD : now.moved(square, move);
    }

    public int walk(int square, int way) {
        if (!now.has(square)) {
            return UNKNOWN;
        }
        return isWay(way) ? now.walked(square, way) : BAD;
    }

    public int square(int square, int what) {
        if (!now.has(square)) {
            return UNKNOWN;
        }
        switch (what) {
            case 0: return now.piece(square);
            case 1: return Row.at(now.turnedRound(), square);
            case 2: return Integer.bitCount(Row.ring(now.turnedRound(), square, now.squares));
            case 3: return Row.ring(now.right, square, now.squares);
            case 4: return now.band(square);
            case 5: return now.holes(square);
            default: return BAD;
        }
    }

    public long name(int square, int least) {
        if (!now.has(square)) {
            return UNKNOWN;
        }
        switch (least) {
            case 0: return now.nameFrom(square);
            case 1: return now.leastName(square);
            default: return BAD;
        }
    }

    // ---- doings

    public int shear(int how) {
        if (how < SIDE || how > QUARTER) {
            return BAD;
        }
        past.add(now.right, now.up);
        now.doShear(how);
        return now.corners();
    }

    public int trade(int one, int other) {
        if (!now.has(one) || !now.has(other)) {
            return UNKNOWN;
        }
        if (one == other) {
            return BAD;
        }
        past.add(now.right, now.up);
        now.doTrade(one, other);
        return 1;
    }

    public int undo() {
        if (past.count == 0) {
            return LATE;
        }
        past.count--;
        now.become(now.squares, past.rightAt(past.count), past.upAt(past.count));
        return past.count;
    }

    // ---- orbits

    public int orbit(int square, int what) {
        if (!now.has(square)) {
            return UNKNOWN;
        }
        if (what < 0 || what > 2) {
            return BAD;
        }
        nameOrbit.gather(now.leastName(square), Integer.bitCount(now.piece(square)));
        switch (what) {
            case 0: return nameOrbit.names.count;
            case 1: return nameOrbit.cusps();
            default: return nameOrbit.widest();
        }
    }

    public int alike(int square, int other, int how) {
        if (!now.has(square) || !now.has(other)) {
            return UNKNOWN;
        }
        if (how < 0 || how > 1) {
            return BAD;
        }
        long name = now.leastName(other);
        if (how == 0) {
            return name == now.leastName(square) ? 1 : 0;
        }
        nameOrbit.gather(now.leastName(square), Integer.bitCount(now.piece(square)));
        return nameOrbit.names.find(name) >= 0 ? 1 : 0;
    }

    public int judge(int n, long row) {
        if (n < 1 || n > MOST_JUDGED || row < 0 || withoutLast(row, n) != 0) {
            return BAD;
        }
        trial.become(now.squares, now.right, now.up);
        for (int k = 0; k < n; k++) {
            int told = (int) (withoutLast(row, n - 1 - k) % TOLD);
            if (!trial.tryTold(told)) {
                return k;
            }
        }
        return NONE;
    }

    public int share(int square, boolean upper) {
        if (!now.has(square)) {
            return UNKNOWN;
        }
        fraction.become(now.moreInAllOrders(square), Gluing.orders(now.squares));
        return fraction.told(upper);
    }

    // ---- seen

    public int see(int way, int back) {
        if (!isWay(way) || back < 0 || back > 1) {
            return BAD;
        }
        return sightings.add(way, back) ? sightings.count : FULL;
    }

    public int unsee() {
        int was = sightings.count;
        sightings.count = 0;
        return was;
    }

    public int which() {
        int bits = 0;
        for (int i = 0; i < now.squares; i++) {
            if (allSeenFrom(i)) {
                bits |= 1 << i;
            }
        }
        return bits;
    }

    // ---- chances

    public int opens(int x, boolean upper) {
        if (x < 0 || x > 10) {
            return BAD;
        }
        fraction.become(now.casesInOnePiece(x), now.casesInAll());
        return fraction.told(upper);
    }

    public long seed(long v) {
        long was = seedNow;
        seedNow = v;
        return was;
    }

    public int drawn(int m) {
        if (m < 1 || m > MOST_DRAWN) {
            return BAD;
        }
        trial.become(now.squares, now.right, now.up);
        int sum = 0;
        for (int k = 0; k < m; k++) {
            seedNow = seedNow * SEED_TIMES + SEED_AND;
            trial.doDrawn(seedNow >>> 33);
            sum += trial.corners() + trial.rows() + trial.bands();
        }
        return sum;
    }

    // ---- slots

    public int keep(int slot) {
        if (!Slots.has(slot)) {
            return UNKNOWN;
        }
        slots.put(slot, now.right, now.up);
        return now.squares;
    }

    public int again(int slot) {
        if (!Slots.has(slot)) {
            return UNKNOWN;
        }
        if (!slots.isKept(slot)) {
            return LATE;
        }
        // The count of squares changes by surface() alone, and that empties the slots.
        now.become(now.squares, slots.rightAt(slot), slots.upAt(slot));
        past.count = 0;
        return now.squares;
    }

    // ---- helpers of the calls

    private static boolean isWay(int way) {
        if (way < 1 || way > 4444) {
            return false;
        }
        for (int rest = way; rest > 0; rest /= 10) {
            int move = rest % 10;
            if (move < 1 || move > 4) {
                return false;
            }
        }
        return true;
    }

    /** A told row of doings without the last ones of it. */
    private static long withoutLast(long row, int doings) {
        long rest = row;
        for (int k = 0; k < doings; k++) {
            rest /= TOLD;
        }
        return rest;
    }

    private boolean allSeenFrom(int square) {
        for (int k = 0; k < sightings.count; k++) {
            boolean back = now.walked(square, sightings.wayAt(k)) == square;
            if (back != sightings.cameBack(k)) {
                return false;
            }
        }
        return true;
    }

    private int groupSize() {
        turns.count = 0;
        turns.placeOf(Row.staying(now.squares));
        for (int k = 0; k < turns.count && k < Distinct.MOST; k++) {
            int row = (int) turns.at(k);
            turns.placeOf(Row.then(row, now.right, now.squares));
            turns.placeOf(Row.then(row, now.up, now.squares));
        }
        return turns.count;
    }

    /** Rows of up to five squares, three bits for each place of one int. */
    private static final class Row {
        static int at(int row, int place) {
            return (row >>> (3 * place)) & 7;
        }

        /** The place must hold 0 so far. */
        static int put(int row, int place, int square) {
            return row | square << (3 * place);
        }

        static int staying(int length) {
            int row = 0;
            for (int i = 0; i < length; i++) {
                row = put(row, i, i);
            }
            return row;
        }

        static int then(int first, int second, int length) {
            int row = 0;
            for (int i = 0; i < length; i++) {
                row = put(row, i, at(second, at(first, i)));
            }
            return row;
        }

        static int back(int of, int length) {
            int row = 0;
            for (int i = 0; i < length; i++) {
                row = put(row, at(of, i), i);
            }
            return row;
        }

        static int ring(int row, int from, int length) {
            int bits = 0;
            int square = from;
            for (int step = 0; step < length; step++) {
                bits |= 1 << square;
                square = at(row, square);
            }
            return bits;
        }

        static int rings(int row, int length) {
            int met = 0;
            int count = 0;
            for (int i = 0; i < length; i++) {
                if (!isIn(met, i)) {
                    met |= ring(row, i, length);
                    count++;
                }
            }
            return count;
        }

        static boolean isIn(int bits, int square) {
            return (bits >>> square & 1) == 1;
        }
    }

    /** Squares with what is right of each and above each. */
    private static final class Gluing {
        private static final int[] ORDERS = {1, 1, 2, 6, 24, 120};

        private int squares = 1;
        private int right = 0;
        private int up = 0;

        void become(int newSquares, int newRight, int newUp) {
            squares = newSquares;
            right = newRight;
            up = newUp;
        }

        boolean has(int square) {
            return square >= 0 && square < squares;
        }

        int all() {
            return (1 << squares) - 1;
        }

        int left() {
            return Row.back(right, squares);
        }

        int down() {
            return Row.back(up, squares);
        }

        int moved(int square, int move) {
            switch (move) {
                case 1: return Row.at(right, square);
                case 2: return Row.at(left(), square);
                case 3: return Row.at(up, square);
                default: return Row.at(down(), square);
            }
        }

        int walked(int from, int way) {
            int square = from;
            for (int power = 1000; power > 0; power /= 10) {
                int move = way / power % 10;
                if (move > 0) {
                    square = moved(square, move);
                }
            }
            return square;
        }

        // ---- pieces

        /** The squares to which moves lead, among those that have come, over no open right seam. */
        int reach(int from, int come, int open) {
            int bits = 1 << from;
            for (int round = 1; round < squares; round++) {
                int before = bits;
                for (int i = 0; i < squares; i++) {
                    if (!Row.isIn(open, i)) {
                        bits = joined(bits, 1 << i | 1 << Row.at(right, i), come);
                    }
                    bits = joined(bits, 1 << i | 1 << Row.at(up, i), come);
                }
                if (bits == before) {
                    break;
                }
            }
            return bits;
        }

        private static int joined(int bits, int pair, int come) {
            return (pair & come) == pair && (pair & bits) != 0 ? bits | pair : bits;
        }

        int piece(int square) {
            return reach(square, all(), 0);
        }

        int pieces(int come) {
            int met = 0;
            int count = 0;
            for (int i = 0; i < squares; i++) {
                if (Row.isIn(come, i) && !Row.isIn(met, i)) {
                    met |= reach(i, come, 0);
                    count++;
                }
            }
            return count;
        }

        // ---- corners

        int turnedRound() {
            int ahead = Row.then(right, up, squares);
            return Row.then(ahead, Row.then(left(), down(), squares), squares);
        }

        int corners() {
            return Row.rings(turnedRound(), squares);
        }

        int ordinaryCorners() {
            int round = turnedRound();
            int count = 0;
            for (int i = 0; i < squares; i++) {
                if (Row.at(round, i) == i) {
                    count++;
                }
            }
            return count;
        }

        int mostTurns() {
            int round = turnedRound();
            int most = 0;
            for (int i = 0; i < squares; i++) {
                most = Math.max(most, Integer.bitCount(Row.ring(round, i, squares)));
            }
            return most;
        }

        int holes(int square) {
            int piece = piece(square);
            int round = turnedRound();
            int met = 0;
            int sum = 2;
            for (int i = 0; i < squares; i++) {
                if (Row.isIn(piece, i) && !Row.isIn(met, i)) {
                    int ring = Row.ring(round, i, squares);
                    met |= ring;
                    sum += Integer.bitCount(ring) - 1;
                }
            }
            return sum / 2;
        }

        // ---- rows and bands

        int rows() {
            return Row.rings(right, squares);
        }

        private boolean isContinued(int row, int round) {
            for (int i = 0; i < squares; i++) {
                if (Row.isIn(row, i) && Row.at(round, i) != i) {
                    return false;
                }
            }
            return true;
        }

        int band(int square) {
            int round = turnedRound();
            int bits = Row.ring(right, square, squares);
            for (int pass = 1; pass < squares; pass++) {
                int before = bits;
                for (int i = 0; i < squares; i++) {
                    int row = Row.ring(right, i, squares);
                    int both = row | Row.ring(right, Row.at(up, i), squares);
                    if ((both & bits) != 0 && isContinued(row, round)) {
                        bits |= both;
                    }
                }
                if (bits == before) {
                    break;
                }
            }
            return bits;
        }

        int bands() {
            int met = 0;
            int count = 0;
            for (int i = 0; i < squares; i++) {
                if (!Row.isIn(met, i)) {
                    met |= band(i);
                    count++;
                }
            }
            return count;
        }

        // ---- names

        long nameFrom(int from) {
            int order = from;
            int numbers = 0;
            int met = 1 << from;
            int count = 1;
            for (int k = 0; k < count && k < squares; k++) {
                int square = Row.at(order, k);
                for (int side = 0; side < 2; side++) {
                    int next = Row.at(side == 0 ? right : up, square);
                    if (!Row.isIn(met, next)) {
                        met |= 1 << next;
                        order = Row.put(order, count, next);
                        numbers = Row.put(numbers, next, count);
                        count++;
                    }
                }
            }
            return figures(figures(0, right, order, numbers, count), up, order, numbers, count);
        }

        private static long figures(long ahead, int row, int order, int numbers, int count) {
            long name = ahead;
            for (int k = 0; k < count; k++) {
                name = name * 10 + Row.at(numbers, Row.at(row, Row.at(order, k)));
            }
            return name;
        }

        long leastName(int square) {
            int piece = reach(square, all(), 0);
            long least = nameFrom(square);
            for (int i = 0; i < squares; i++) {
                if (Row.isIn(piece, i)) {
                    least = Math.min(least, nameFrom(i));
                }
            }
            return least;
        }

        void becomeNamed(long name, int length) {
            long rest = name;
            int newRight = 0;
            int newUp = 0;
            for (int i = length - 1; i >= 0; i--) {
                newUp = Row.put(newUp, i, (int) (rest % 10));
                rest /= 10;
            }
            for (int i = length - 1; i >= 0; i--) {
                newRight = Row.put(newRight, i, (int) (rest % 10));
                rest /= 10;
            }
            become(length, newRight, newUp);
        }

        // ---- doings

        void doShear(int how) {
            if (how == SIDE) {
                up = Row.then(left(), up, squares);
            } else if (how == UPWARD) {
                right = Row.then(down(), right, squares);
            } else {
                become(squares, down(), right);
            }
        }

        void doTrade(int one, int other) {
            int traded = 0;
            for (int i = 0; i < squares; i++) {
                traded = Row.put(traded, i, i == one ? other : i == other ? one : i);
            }
            right = Row.then(traded, Row.then(right, traded, squares), squares);
            up = Row.then(traded, Row.then(up, traded, squares), squares);
        }

        void doDrawn(long bits) {
            int kind = (int) (bits % 4);
            if (kind <= QUARTER) {
                doShear(kind);
                return;
            }
            int one = leftBy(bits / 8);
            int other = leftBy(bits / 64);
            if (one != other) {
                doTrade(one, other);
            }
        }

        private int leftBy(long value) {
            return squares > 0 ? (int) (value % squares) : 0;
        }

        /** One told doing of four figures: false, if it can not be or is not so. */
        boolean tryTold(int told) {
            int second = told / 100 % 10;
            int third = told / 10 % 10;
            int last = told % 10;
            switch (told / 1000) {
                case 1:
                case 2:
                case 3: return second == 0 && third == 0 && last == 0 && didShear(told / 1000 - 1);
                case 4: return second == 0 && didTrade(third, last);
                case 5: return last == 0 && has(second) && has(third) && Row.isIn(piece(second), third);
                case 6: return second == 0 && third == 0 && ordinaryCorners() >= last;
                case 7: return third == 0 && has(second) && holes(second) == last;
                default: return false;
            }
        }

        private boolean didShear(int how) {
            doShear(how);
            return true;
        }

        private boolean didTrade(int one, int other) {
            if (!has(one) || !has(other) || one == other) {
                return false;
            }
            doTrade(one, other);
            return true;
        }

        // ---- shares and chances

        /** In how many orders that many squares can come. */
        static int orders(int count) {
            return count >= 0 && count < ORDERS.length ? ORDERS[count] : 1;
        }

        /** By how many pieces there are more when the square comes, over all orders together. */
        int moreInAllOrders(int square) {
            int last = all();
            int sum = 0;
            for (int come = 0; come <= last; come++) {
                if (!Row.isIn(come, square)) {
                    int ahead = Integer.bitCount(come);
                    int more = pieces(come | 1 << square) - pieces(come);
                    sum += more * orders(ahead) * orders(squares - 1 - ahead);
                }
            }
            return sum;
        }

        /** Each seam has ten cases, and is open in x of them. */
        int casesInAll() {
            int cases = 1;
            for (int i = 0; i < squares; i++) {
                cases *= 10;
            }
            return cases;
        }

        int casesInOnePiece(int x) {
            int last = all();
            int sum = 0;
            for (int open = 0; open <= last; open++) {
                if (reach(0, last, open) == last) {
                    sum += casesOfOpen(open, x);
                }
            }
            return sum;
        }

        private int casesOfOpen(int open, int x) {
            int cases = 1;
            for (int i = 0; i < squares; i++) {
                cases *= Row.isIn(open, i) ? x : 10 - x;
            }
            return cases;
        }
    }

    /** THE TEXT. */
    private static final class Letters {
        private static final int MOST = 20;

        private final int[] letters = new int[MOST];
        private int length = 0;

        boolean add(int letter) {
            if (length < 0 || length >= MOST) {
                return false;
            }
            letters[length] = letter;
            length++;
            return true;
        }

        /** The figure at a place; below 0 or above 9, if there is none. */
        int figure(int place) {
            return place >= 0 && place < length && place < MOST ? letters[place] - '0' : -1;
        }

        int rowFrom(int place, int count) {
            int row = 0;
            for (int i = 0; i < count; i++) {
                row = Row.put(row, i, figure(place + i));
            }
            return row;
        }

        int firstFault() {
            if (length < 1 || letters[0] != 'S') {
                return 0;
            }
            int squares = figure(1);
            if (squares < 1 || squares > MOST_SQUARES) {
                return 1;
            }
            int end = 2 + 2 * squares;
            int met = 0;
            for (int place = 2; place < end; place++) {
                if (place == 2 + squares) {
                    met = 0;
                }
                int square = figure(place);
                if (square < 0 || square >= squares || Row.isIn(met, square)) {
                    return place;
                }
                met |= 1 << square;
            }
            return length > end ? end : NONE;
        }
    }

    /** R and U as they were ahead of each doing that can be undone. */
    private static final class Past {
        private static final int MOST = 14;

        private final int[] rights = new int[MOST];
        private final int[] ups = new int[MOST];
        private int count = 0;

        void add(int right, int up) {
            if (count >= MOST) {
                System.arraycopy(rights, 1, rights, 0, MOST - 1);
                System.arraycopy(ups, 1, ups, 0, MOST - 1);
                count = MOST - 1;
            }
            if (count >= 0) {
                rights[count] = right;
                ups[count] = up;
                count++;
            }
        }

        int rightAt(int place) {
            return place >= 0 && place < MOST ? rights[place] : 0;
        }

        int upAt(int place) {
            return place >= 0 && place < MOST ? ups[place] : 0;
        }
    }

    /** What was kept. */
    private static final class Slots {
        private static final int MOST = 2;

        private final int[] rights = new int[MOST];
        private final int[] ups = new int[MOST];
        private int keptBits = 0;

        static boolean has(int slot) {
            return slot >= 0 && slot < MOST;
        }

        void clear() {
            keptBits = 0;
        }

        boolean isKept(int slot) {
            return has(slot) && Row.isIn(keptBits, slot);
        }

        void put(int slot, int right, int up) {
            if (has(slot)) {
                rights[slot] = right;
                ups[slot] = up;
                keptBits |= 1 << slot;
            }
        }

        int rightAt(int slot) {
            return has(slot) ? rights[slot] : 0;
        }

        int upAt(int slot) {
            return has(slot) ? ups[slot] : 0;
        }
    }

    /** What is SEEN. */
    private static final class Sightings {
        private static final int MOST = 6;

        private final int[] ways = new int[MOST];
        private final int[] backs = new int[MOST];
        private int count = 0;

        boolean add(int way, int back) {
            if (count < 0 || count >= MOST) {
                return false;
            }
            ways[count] = way;
            backs[count] = back;
            count++;
            return true;
        }

        int wayAt(int place) {
            return place >= 0 && place < MOST ? ways[place] : 0;
        }

        boolean cameBack(int place) {
            return place >= 0 && place < MOST && backs[place] == 1;
        }
    }

    /** Unlike numbers in the order in which they were met. */
    private static final class Distinct {
        /** A group of five squares has 120 turns, and they have 97 unlike least names, at most. */
        private static final int MOST = 128;

        private final long[] numbers = new long[MOST];
        private int count = 0;

        long at(int place) {
            return place >= 0 && place < MOST ? numbers[place] : 0;
        }

        int find(long number) {
            for (int k = 0; k < count && k < MOST; k++) {
                if (numbers[k] == number) {
                    return k;
                }
            }
            return -1;
        }

        /** The place of a number, which is put behind all others if it is new. */
        int placeOf(long number) {
            int found = find(number);
            if (found >= 0 || count < 0 || count >= MOST) {
                return found;
            }
            numbers[count] = number;
            count++;
            return count - 1;
        }
    }

    /** The names that come of one name by shears. */
    private static final class NameOrbit {
        private final Distinct names = new Distinct();
        private final int[] sheared = new int[Distinct.MOST];
        private final Gluing shape = new Gluing();

        /** Each name of an orbit has the same orbit: what holds the name already is not made anew. */
        void gather(long name, int squares) {
            if (names.find(name) >= 0) {
                return;
            }
            names.count = 0;
            names.placeOf(name);
            for (int k = 0; k < names.count && k < Distinct.MOST; k++) {
                sheared[k] = placeSheared(k, squares, SIDE);
                placeSheared(k, squares, UPWARD);
            }
        }

        private int placeSheared(int place, int squares, int how) {
            shape.becomeNamed(names.at(place), squares);
            shape.doShear(how);
            return names.placeOf(shape.leastName(0));
        }

        /** How many names the ring has; 0, if one ahead of this place is in it. */
        private int ringFrom(int place) {
            int next = place;
            for (int size = 1; size <= names.count; size++) {
                next = next >= 0 && next < Distinct.MOST ? sheared[next] : -1;
                if (next < place) {
                    return 0;
                }
                if (next == place) {
                    return size;
                }
            }
            return 0;
        }

        int cusps() {
            int count = 0;
            for (int k = 0; k < names.count; k++) {
                if (ringFrom(k) > 0) {
                    count++;
                }
            }
            return count;
        }

        int widest() {
            int most = 0;
            for (int k = 0; k < names.count; k++) {
                most = Math.max(most, ringFrom(k));
            }
            return most;
        }
    }

    /** A fraction in least terms. */
    private static final class Fraction {
        private int above = 0;
        private int below = 1;

        void become(int newAbove, int newBelow) {
            int common = measure(Math.abs(newAbove), newBelow);
            above = common > 1 ? newAbove / common : newAbove;
            below = common > 1 ? newBelow / common : newBelow;
        }

        int told(boolean upper) {
            return upper ? above : below;
        }

        /** The greatest number that measures both; the rest at least halves in two steps. */
        private static int measure(int one, int other) {
            int greater = one;
            int rest = other;
            for (int step = 0; step < 100 && rest != 0; step++) {
                int next = greater % rest;
                greater = rest;
                rest = next;
            }
            return greater;
        }
    }
}
