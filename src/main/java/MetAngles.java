/** Angles that meet: fractions of a turn, doubled again and again, and the pairs whose leaves never cross. */
public final class MetAngles {
    public static final int BAD = -1, STATE = -2, FULL = -3, NONE = -4;

    private static final int NULL_FAULT = -11, INDEX_FAULT = -12, CAST_FAULT = -13, SIZE_FAULT = -14;
    private static final int ANGLE_REFUSED = -20;

    private static final int MOST_ANGLES = 16;
    private static final int MOST_LOWER = 511;
    private static final int MOST_DOUBLINGS = 100;
    private static final int MOST_LENGTH = 20;
    private static final int MOST_PAIRED_LENGTH = 8;
    private static final int MOST_SHEETS = 4;
    private static final int MOST_CELLS = 60;
    private static final int INTS = 0, LONGS = 1;

    /** All PAIRS of LENGTHS up to 8: 1 + 1 + 3 + 6 + 15 + 27 + 63 + 120. */
    private static final int MOST_PAIRS = 236;

    /** The least number that 2 to the n less 1 divides for each n up to 8: paired ANGLES are whole numbers of these parts. */
    private static final int PARTS = 21082635;

    private final Turn[] turns;
    private final Sheet[] sheets;
    /** Made once and used again by each call; no LENGTH goes beyond MOST_LOWER. */
    private final int[] row;
    private int amount;
    /** Null until a call asks for PARTNERS: many objects never do, and pairing is the dearest work here. */
    private Partners partners;

    public MetAngles() {
        turns = new Turn[MOST_ANGLES];
        sheets = new Sheet[MOST_SHEETS];
        row = new int[MOST_LOWER + 1];
        amount = 0;
        partners = null;
    }

    // ---- angles

    public int angle(long a, long b) {
        if (b < 1 || b > MOST_LOWER || a < 0 || a >= b) {
            return BAD;
        }
        return keep(a, b);
    }

    public int drop() {
        if (amount == 0) {
            return NONE;
        }
        amount--;
        return amount;
    }

    public int told(int k, int what) {
        Turn x = turnAt(k);
        if (x == null) {
            return BAD;
        }
        switch (what) {
            case 0:
                return x.up;
            case 1:
                return x.low;
            case 2:
                return x.tail;
            case 3:
                return x.length;
            default:
                return BAD;
        }
    }

    public int doubled(int k, int n, int what) {
        Turn x = turnAt(k);
        if (x == null || !isDoublings(n) || !isEither(what)) {
            return BAD;
        }
        int up = x.upAfter(n);
        long shared = greatestShared(up, x.low);
        return (int) over(what == 0 ? up : x.low, shared);
    }

    public int all(int n) {
        if (!isLength(n)) {
            return BAD;
        }
        for (int d = 1; d <= n; d++) {
            row[d] = ones(d);
        }
        return justOfLength(n);
    }

    public int letter(int x, int t, int j) {
        Turn turn = turnAt(x);
        Turn by = turnAt(t);
        if (turn == null || by == null || !isDoublings(j)) {
            return BAD;
        }
        return by.letterOf(turn.upAfter(j), turn.low);
    }

    public int address(int t, int i) {
        Turn turn = turnAt(t);
        if (turn == null || i < 0) {
            return BAD;
        }
        if (!turn.comesBack()) {
            return STATE;
        }
        writeInner(turn);
        int number = 1;
        for (int passed = 0; passed < i; passed++) {
            if (number >= turn.length) {
                return NONE;
            }
            number = nextInAddress(number, turn.length);
        }
        return number;
    }

    public int cross(int a, int b, int c, int d) {
        Turn first = turnAt(a);
        Turn second = turnAt(b);
        Turn third = turnAt(c);
        Turn fourth = turnAt(d);
        if (first == null || second == null || third == null || fourth == null) {
            return BAD;
        }
        int sideOfThird = third.against(first) * third.against(second);
        int sideOfFourth = fourth.against(first) * fourth.against(second);
        return answer(sideOfThird * sideOfFourth < 0);
    }

    public int meet(int x, int y, int t) {
        Turn one = turnAt(x);
        Turn other = turnAt(y);
        Turn by = turnAt(t);
        if (one == null || other == null || by == null) {
            return BAD;
        }
        int tail = Math.max(one.tail, other.tail);
        return answer(agreeAhead(one, other, by, tail) && agreeInRings(one, other, by, tail));
    }

    // ---- partners

    public int pairs(int n) {
        if (!isPairedLength(n)) {
            return BAD;
        }
        return known().amountOf(n);
    }

    public int pair(int n, int i, int what) {
        if (!isPairedLength(n) || !isEither(what) || i < 0) {
            return BAD;
        }
        Partners book = known();
        if (i >= book.amountOf(n)) {
            return NONE;
        }
        return book.digitsOf(book.amountUpTo(n - 1) + i, what, n);
    }

    public int partner(int k) {
        Turn x = turnAt(k);
        if (x == null) {
            return BAD;
        }
        int pair = pairOf(x);
        if (pair < 0) {
            return STATE;
        }
        return keep(known().otherEnd(pair, x.inParts()), PARTS);
    }

    public int held(int k, int n) {
        Turn x = turnAt(k);
        if (x == null || !isPairedLength(n)) {
            return BAD;
        }
        Partners book = known();
        int holders = 0;
        for (int p = 0; p < book.amountUpTo(n); p++) {
            if (book.holdsTurn(p, x)) {
                holders++;
            }
        }
        return holders;
    }

    public int holder(int k, int n, int i, int what) {
        Turn x = turnAt(k);
        if (x == null || !isPairedLength(n) || !isEither(what) || i < 0) {
            return BAD;
        }
        Partners book = known();
        int pair = book.nextHolder(x, n, -1);
        for (int passed = 0; passed < i && pair >= 0; passed++) {
            pair = book.nextHolder(x, n, pair);
        }
        if (pair < 0) {
            return NONE;
        }
        int length = book.lengthOf(pair);
        return what == 0 ? length : pair - book.amountUpTo(length - 1);
    }

    public int holds(int k, int q) {
        Turn x = turnAt(k);
        Turn y = turnAt(q);
        if (x == null || y == null) {
            return BAD;
        }
        int outer = pairOf(x);
        int inner = pairOf(y);
        if (outer < 0 || inner < 0) {
            return STATE;
        }
        return answer(known().holdsPair(outer, inner));
    }

    public int between(int k, int q, int n) {
        Turn x = turnAt(k);
        Turn y = turnAt(q);
        if (x == null || y == null || !isPairedLength(n)) {
            return BAD;
        }
        int one = pairOf(x);
        int other = pairOf(y);
        if (one < 0 || other < 0) {
            return STATE;
        }
        Partners book = known();
        if (book.holdsPair(one, other)) {
            return book.amountBetween(one, other, n);
        }
        return book.holdsPair(other, one) ? book.amountBetween(other, one, n) : STATE;
    }

    public int wide(int k, int n) {
        Turn x = turnAt(k);
        if (x == null || !isLength(n)) {
            return BAD;
        }
        int pair = pairOf(x);
        if (pair < 0) {
            return STATE;
        }
        for (int d = 1; d <= n; d++) {
            row[d] = known().amountInside(pair, ones(d));
        }
        return justOfLength(n);
    }

    // ---- putting

    public int digit(int k, int i) {
        Turn x = turnAt(k);
        if (x == null || !isDoublings(i)) {
            return BAD;
        }
        if (!x.comesBack()) {
            return STATE;
        }
        return answer(2 * x.upAfter(i) >= x.low);
    }

    public int put(int k, int x) {
        Turn pairEnd = turnAt(k);
        Turn into = turnAt(x);
        if (pairEnd == null || into == null) {
            return BAD;
        }
        int pair = pairForPutting(pairEnd, into);
        if (pair < 0 || pairEnd.length * into.length > MOST_LENGTH) {
            return STATE;
        }
        int less = known().digitsOf(pair, 0, pairEnd.length);
        int greater = known().digitsOf(pair, 1, pairEnd.length);
        long digits = 0;
        for (int i = 0; i < into.length; i++) {
            boolean isZero = 2 * into.upAfter(i) < into.low;
            digits = (digits << pairEnd.length) + (isZero ? less : greater);
        }
        return keep(digits, ones(pairEnd.length * into.length));
    }

    public int take(int k, int x) {
        Turn pairEnd = turnAt(k);
        Turn outOf = turnAt(x);
        if (pairEnd == null || outOf == null) {
            return BAD;
        }
        int pair = pairForPutting(pairEnd, outOf);
        if (pair < 0 || outOf.length > MOST_LENGTH) {
            return STATE;
        }
        int blocks = (int) over(outOf.length, greatestShared(outOf.length, pairEnd.length));
        long digits = digitsTakenOut(pair, pairEnd.length, outOf, blocks);
        // Digits that are all 1 would be a whole turn, and that is no ANGLE.
        if (digits < 0 || digits == ones(blocks)) {
            return NONE;
        }
        return keep(digits, ones(blocks));
    }

    // ---- sheets

    public int sheet(int k, int lane, int n) {
        if (!isSheet(k) || !isLane(lane) || n > MOST_CELLS) {
            return BAD;
        }
        if (n < 0) {
            return SIZE_FAULT;
        }
        sheets[k] = new Sheet(lane, n);
        return 1;
    }

    public int lay(int k, int i, long v) {
        if (!isSheet(k)) {
            return BAD;
        }
        Sheet sheet = sheets[k];
        if (sheet == null) {
            return NULL_FAULT;
        }
        if (!sheet.hasCell(i)) {
            return INDEX_FAULT;
        }
        sheet.cells[i] = sheet.lane == INTS ? (int) v : v;
        return 1;
    }

    public int scan(int k, int lane, int f, int n) {
        if (!isSheet(k) || !isLane(lane) || n < 0 || n > MOST_ANGLES) {
            return BAD;
        }
        Sheet sheet = sheets[k];
        if (sheet == null) {
            return NULL_FAULT;
        }
        if (sheet.lane != lane) {
            return CAST_FAULT;
        }
        int before = amount;
        for (int i = 0; i < n; i++) {
            int answer = readAngle(sheet, f + 2L * i);
            if (answer < 0) {
                amount = before;
                return answer;
            }
        }
        return amount;
    }

    public int count(int what) {
        switch (what) {
            case 0:
                return amount;
            case 1:
                return amountThatComesBack();
            case 2:
                return amountOfUnlike();
            default:
                return BAD;
        }
    }

    // ---- what is asked for

    private static boolean isDoublings(int n) {
        return n >= 0 && n <= MOST_DOUBLINGS;
    }

    private static boolean isLength(int n) {
        return n >= 1 && n <= MOST_LENGTH;
    }

    private static boolean isPairedLength(int n) {
        return n >= 1 && n <= MOST_PAIRED_LENGTH;
    }

    private static boolean isEither(int what) {
        return what == 0 || what == 1;
    }

    private static boolean isSheet(int k) {
        return k >= 0 && k < MOST_SHEETS;
    }

    private static boolean isLane(int lane) {
        return lane == INTS || lane == LONGS;
    }

    private static int answer(boolean yes) {
        return yes ? 1 : 0;
    }

    private Turn turnAt(int k) {
        return k >= 0 && k < amount ? turns[k] : null;
    }

    private int keep(long a, long b) {
        if (amount >= MOST_ANGLES) {
            return FULL;
        }
        turns[amount] = new Turn(a, b);
        amount++;
        return amount - 1;
    }

    // ---- numbers

    private static long over(long number, long divisor) {
        return divisor > 0 ? number / divisor : 0;
    }

    private static int ones(int n) {
        return (1 << n) - 1;
    }

    private static int order(long a, long b) {
        return a < b ? -1 : a > b ? 1 : 0;
    }

    private static long greatestShared(long a, long b) {
        long shared = a;
        long rest = b;
        // Each two steps halve the rest at least, so 128 are more than any two longs need.
        for (int step = 0; step < 128 && rest != 0; step++) {
            long next = shared % rest;
            shared = rest;
            rest = next;
        }
        return shared;
    }

    private static int twice(int up, int low) {
        int two = 2 * up;
        return two >= low ? two - low : two;
    }

    /** The row tells for each d up to n how many come again after d DOUBLINGS: those of a lesser LENGTH go out. */
    private int justOfLength(int n) {
        for (int d = 1; d < n; d++) {
            for (int e = 2 * d; e <= n; e += d) {
                row[e] -= row[d];
            }
        }
        return row[n];
    }

    private int amountThatComesBack() {
        int back = 0;
        for (int k = 0; k < amount; k++) {
            Turn x = turnAt(k);
            if (x != null && x.comesBack()) {
                back++;
            }
        }
        return back;
    }

    private int amountOfUnlike() {
        int unlike = 0;
        for (int k = 0; k < amount; k++) {
            if (!cameEarlier(k)) {
                unlike++;
            }
        }
        return unlike;
    }

    private boolean cameEarlier(int k) {
        Turn x = turnAt(k);
        for (int earlier = 0; earlier < k && x != null; earlier++) {
            Turn y = turnAt(earlier);
            if (y != null && x.against(y) == 0) {
                return true;
            }
        }
        return false;
    }

    // ---- words

    private void writeInner(Turn t) {
        int up = t.up;
        for (int j = 0; j < t.length && j < row.length; j++) {
            row[j] = t.letterOf(up, t.low);
            up = twice(up, t.low);
        }
    }

    private int nextInAddress(int number, int length) {
        for (int j = number + 1; j < length && j <= row.length; j++) {
            if (row[j - 1] != row[j - 1 - number]) {
                return j;
            }
        }
        return length;
    }

    private static boolean agree(int letter, int other) {
        return letter == other || letter == 2 || other == 2;
    }

    private static boolean agreeAhead(Turn one, Turn other, Turn by, int tail) {
        int up = one.up;
        int otherUp = other.up;
        for (int j = 0; j < tail; j++) {
            if (!agree(by.letterOf(up, one.low), by.letterOf(otherUp, other.low))) {
                return false;
            }
            up = twice(up, one.low);
            otherUp = twice(otherUp, other.low);
        }
        return true;
    }

    /**
     * Two places in rings stand beside one another at some time just if they are alike by the LENGTHS' greatest
     * shared part: so each ring is gone through once, and not as often as both together take to come again.
     */
    private boolean agreeInRings(Turn one, Turn other, Turn by, int tail) {
        int shared = (int) greatestShared(one.length, other.length);
        for (int place = 0; place < shared && place < row.length; place++) {
            row[place] = 0;
        }
        int up = one.upAfter(tail);
        int place = 0;
        for (int j = 0; j < one.length && place < row.length; j++) {
            row[place] |= 1 << by.letterOf(up, one.low);
            up = twice(up, one.low);
            place = place + 1 < shared ? place + 1 : 0;
        }
        up = other.upAfter(tail);
        place = 0;
        for (int j = 0; j < other.length && place < row.length; j++) {
            int letter = by.letterOf(up, other.low);
            if (letter != 2 && (row[place] & 1 << (1 - letter)) != 0) {
                return false;
            }
            up = twice(up, other.low);
            place = place + 1 < shared ? place + 1 : 0;
        }
        return true;
    }

    // ---- pairs

    private Partners known() {
        if (partners == null) {
            partners = new Partners();
        }
        return partners;
    }

    private int pairOf(Turn x) {
        return x.comesBack() && isPairedLength(x.length) ? known().pairWith(x.inParts()) : -1;
    }

    private int pairForPutting(Turn pairEnd, Turn x) {
        return x.comesBack() && pairEnd.up != 0 ? pairOf(pairEnd) : -1;
    }

    /** Below 0, if a block of x is none of both ends. */
    private long digitsTakenOut(int pair, int length, Turn x, int blocks) {
        int less = known().digitsOf(pair, 0, length);
        int greater = known().digitsOf(pair, 1, length);
        long digits = 0;
        long up = x.up;
        for (int i = 0; i < blocks; i++) {
            long moved = up << length;
            long block = over(moved, x.low);
            if (block != less && block != greater) {
                return -1;
            }
            digits = 2 * digits + answer(block == greater);
            up = moved - block * x.low;
        }
        return digits;
    }

    private int readAngle(Sheet sheet, long at) {
        if (!sheet.hasCell(at) || !sheet.hasCell(at + 1)) {
            return INDEX_FAULT;
        }
        int answer = angle(sheet.cells[(int) at], sheet.cells[(int) at + 1]);
        return answer < 0 ? ANGLE_REFUSED + answer : answer;
    }

    /** An ANGLE, in lowest terms. */
    private static final class Turn {
        final int up;
        final int low;
        final int tail;
        final int length;

        Turn(long a, long b) {
            long shared = greatestShared(a, b);
            up = (int) over(a, shared);
            low = (int) over(b, shared);
            tail = twosIn(low);
            length = lengthOfRing(upAfter(tail), low);
        }

        /** In lowest terms each DOUBLING halves an even lower part, and an odd one comes back. */
        private static int twosIn(int low) {
            int twos = 0;
            while (twos < 30 && (low >> twos & 1) == 0) {
                twos++;
            }
            return twos;
        }

        private static int lengthOfRing(int start, int low) {
            int up = twice(start, low);
            int length = 1;
            while (length < low && up != start) {
                up = twice(up, low);
                length++;
            }
            return length;
        }

        boolean comesBack() {
            return tail == 0;
        }

        /** The numerator over the same lower part, so perhaps not in lowest terms. */
        int upAfter(int doublings) {
            int now = up;
            for (int j = 0; j < doublings; j++) {
                now = twice(now, low);
            }
            return now;
        }

        int against(Turn other) {
            return order((long) up * other.low, (long) other.up * low);
        }

        /** The LETTER by this ANGLE of another one: all is doubled, so that the halves are whole numbers. */
        int letterOf(int otherUp, int otherLow) {
            long place = 2L * otherUp * low;
            int byHalf = order(place, (long) up * otherLow);
            int byOtherHalf = order(place, ((long) up + low) * otherLow);
            if (byHalf == 0 || byOtherHalf == 0) {
                return 2;
            }
            return byHalf > 0 && byOtherHalf < 0 ? 1 : 0;
        }

        /** Only where the ANGLE has a PARTNER: else its lower part does not divide PARTS. */
        int inParts() {
            return (int) (up * over(PARTS, low));
        }
    }

    /** All PAIRS in their order, their ends in PARTS. */
    private static final class Partners {
        private final int[] less;
        private final int[] greater;
        private final int[] upTo;
        private int made;

        Partners() {
            less = new int[MOST_PAIRS];
            greater = new int[MOST_PAIRS];
            upTo = new int[MOST_PAIRED_LENGTH + 1];
            made = 0;
            join(0, 0);
            upTo[1] = made;
            boolean[] free = new boolean[ones(MOST_PAIRED_LENGTH)];
            for (int n = 2; n <= MOST_PAIRED_LENGTH; n++) {
                markFree(free, n);
                joinFree(free, n);
                upTo[n] = made;
            }
        }

        private static void markFree(boolean[] free, int n) {
            for (int a = 0; a < ones(n) && a < free.length; a++) {
                free[a] = Turn.lengthOfRing(a, ones(n)) == n;
            }
        }

        private void joinFree(boolean[] free, int n) {
            int step = (int) over(PARTS, ones(n));
            int end = Math.min(ones(n), free.length);
            for (int a = 0; a < end; a++) {
                for (int b = a + 1; b < end && free[a]; b++) {
                    if (free[b] && crossesNone(a * step, b * step)) {
                        join(a * step, b * step);
                        free[a] = false;
                        free[b] = false;
                    }
                }
            }
        }

        private void join(int a, int b) {
            if (made < MOST_PAIRS) {
                less[made] = a;
                greater[made] = b;
                made++;
            }
        }

        private boolean crossesNone(int a, int b) {
            for (int p = 0; p < made; p++) {
                int sideOfA = order(a, less[p]) * order(a, greater[p]);
                int sideOfB = order(b, less[p]) * order(b, greater[p]);
                if (sideOfA * sideOfB < 0) {
                    return false;
                }
            }
            return true;
        }

        private boolean isMade(int p) {
            return p >= 0 && p < made;
        }

        int amountUpTo(int n) {
            return n >= 1 && n < upTo.length ? upTo[n] : 0;
        }

        int amountOf(int n) {
            return amountUpTo(n) - amountUpTo(n - 1);
        }

        int lengthOf(int p) {
            int n = 1;
            while (n < MOST_PAIRED_LENGTH && p >= amountUpTo(n)) {
                n++;
            }
            return n;
        }

        int pairWith(int end) {
            for (int p = 0; p < made; p++) {
                if (less[p] == end || greater[p] == end) {
                    return p;
                }
            }
            return -1;
        }

        int otherEnd(int p, int end) {
            if (!isMade(p)) {
                return end;
            }
            return less[p] == end ? greater[p] : less[p];
        }

        /** The numerator of an end (0 the LESS one, else the GREATER one) over 2 to the n less 1, n being the PAIR'S LENGTH. */
        int digitsOf(int p, int which, int n) {
            if (!isMade(p)) {
                return 0;
            }
            return (int) over(which == 0 ? less[p] : greater[p], over(PARTS, ones(n)));
        }

        boolean holdsTurn(int p, Turn x) {
            long place = (long) x.up * PARTS;
            return isMade(p) && (long) less[p] * x.low <= place && place <= (long) greater[p] * x.low;
        }

        boolean holdsPair(int outer, int inner) {
            return isMade(outer) && isMade(inner) && less[outer] <= less[inner] && greater[inner] <= greater[outer];
        }

        /** PAIRS that HOLD one ANGLE lie one in the other, as no LEAVES CROSS: so the outer of two has the lesser LESS one. */
        int nextHolder(Turn x, int n, int outer) {
            int below = isMade(outer) ? less[outer] : -1;
            int next = -1;
            for (int p = 0; p < amountUpTo(n); p++) {
                if (holdsTurn(p, x) && less[p] > below && (next < 0 || less[p] < less[next])) {
                    next = p;
                }
            }
            return next;
        }

        int amountBetween(int outer, int inner, int n) {
            int amount = 0;
            for (int p = 0; p < amountUpTo(n); p++) {
                if (p != outer && p != inner && holdsPair(outer, p) && holdsPair(p, inner)) {
                    amount++;
                }
            }
            return amount;
        }

        /** How many whole numbers over the lower part a PAIR HOLDS. */
        int amountInside(int p, int low) {
            if (!isMade(p)) {
                return 0;
            }
            long last = over((long) greater[p] * low, PARTS);
            long first = over((long) less[p] * low + PARTS - 1, PARTS);
            return (int) (last - first + 1);
        }
    }

    /** A row of CELLS; those of INTS are kept cut to an int's bits. */
    private static final class Sheet {
        final int lane;
        final long[] cells;

        Sheet(int lane, int n) {
            this.lane = lane;
            this.cells = new long[Math.max(n, 0)];
        }

        boolean hasCell(long i) {
            return i >= 0 && i < cells.length;
        }
    }
}
