/** Each promise of the document by itself: ordinary inputs, the edges that it names, and wrong inputs. */
public final class PromisesTest {
    private static final Due DUE = new Due();
    private static final int BAD = -1, STATE = -2, FULL = -3, NONE = -4;
    private static final int LEAST = Integer.MIN_VALUE, MOST = Integer.MAX_VALUE;

    public static void main(String[] args) {
        newObject();
        angle();
        drop();
        told();
        doubled();
        all();
        letter();
        address();
        cross();
        meet();
        pairs();
        pair();
        partner();
        held();
        holder();
        holds();
        between();
        wide();
        digit();
        put();
        take();
        sheet();
        lay();
        scan();
        scanOrder();
        count();
        DUE.end();
    }

    private static void is(String what, int got, int want) {
        DUE.is(what, got, want);
    }

    /** An object with the ANGLES up by low, two numbers each. */
    private static MetAngles with(long... fractions) {
        MetAngles x = new MetAngles();
        for (int i = 0; i + 1 < fractions.length; i += 2) {
            is("angle(" + fractions[i] + ", " + fractions[i + 1] + ")", x.angle(fractions[i], fractions[i + 1]), i / 2);
        }
        return x;
    }

    private static MetAngles full(long... fractions) {
        MetAngles x = with(fractions);
        for (int k = fractions.length / 2; k < 16; k++) {
            is("angle(1, 5)", x.angle(1, 5), k);
        }
        return x;
    }

    private static void isFraction(String what, MetAngles x, int k, int up, int low) {
        is(what + ": numerator", x.told(k, 0), up);
        is(what + ": lower part", x.told(k, 1), low);
    }

    private static void newObject() {
        MetAngles x = new MetAngles();
        is("new: count(0)", x.count(0), 0);
        is("new: count(1)", x.count(1), 0);
        is("new: count(2)", x.count(2), 0);
        is("new: drop()", x.drop(), NONE);
        is("new: told(0, 0)", x.told(0, 0), BAD);
        for (int k = 0; k < 4; k++) {
            is("new: lay on SHEET " + k, x.lay(k, 0, 1), -11);
            is("new: scan of SHEET " + k, x.scan(k, 0, 0, 0), -11);
        }
    }

    private static void angle() {
        MetAngles x = with(0, 1, 0, 511, 510, 511, 6, 9);
        isFraction("angle(0, 511)", x, 1, 0, 1);
        isFraction("angle(510, 511)", x, 2, 510, 511);
        isFraction("angle(6, 9)", x, 3, 2, 3);
        long[][] wrong = {{-1, 3}, {3, 3}, {4, 3}, {0, 0}, {0, -1}, {-2, -1}, {0, 512}, {1L << 32, 3}, {0, (1L << 32) + 1},
            {1, (1L << 32) + 3}, {Long.MIN_VALUE, 5}, {Long.MAX_VALUE, 5}, {0, Long.MIN_VALUE}, {0, Long.MAX_VALUE}};
        MetAngles filled = full();
        for (long[] f : wrong) {
            is("angle(" + f[0] + ", " + f[1] + ")", x.angle(f[0], f[1]), BAD);
            is("full: angle(" + f[0] + ", " + f[1] + ")", filled.angle(f[0], f[1]), BAD);
        }
        is("refused angles came", x.count(0), 4);
        is("angle number 16", filled.angle(1, 3), FULL);
        is("after FULL", filled.count(0), 16);
    }

    private static void drop() {
        MetAngles x = with(1, 3, 1, 7);
        is("drop() of two", x.drop(), 1);
        is("told of a dropped one", x.told(1, 0), BAD);
        is("angle behind a dropped one", x.angle(2, 5), 1);
        isFraction("angle behind a dropped one", x, 1, 2, 5);
        is("drop()", x.drop(), 1);
        is("drop()", x.drop(), 0);
        is("drop() of none", x.drop(), NONE);
        MetAngles filled = full();
        is("drop() of sixteen", filled.drop(), 15);
        is("angle into the free place", filled.angle(0, 1), 15);
    }

    private static void told() {
        MetAngles x = with(0, 1, 6, 12, 1, 256, 1, 509, 1, 511, 255, 510, 1, 510, 5, 12, 3, 56);
        int[][] due = {{0, 1, 0, 1}, {1, 2, 1, 1}, {1, 256, 8, 1}, {1, 509, 0, 508}, {1, 511, 0, 9}, {1, 2, 1, 1},
            {1, 510, 1, 8}, {5, 12, 2, 2}, {3, 56, 3, 3}};
        for (int k = 0; k < due.length; k++) {
            for (int what = 0; what < 4; what++) {
                is("told(" + k + ", " + what + ")", x.told(k, what), due[k][what]);
            }
        }
        for (int wrong : new int[] {-1, 4, LEAST, MOST}) {
            is("told(0, " + wrong + ")", x.told(0, wrong), BAD);
        }
        for (int wrong : new int[] {-1, 9, 16, LEAST, MOST}) {
            is("told(" + wrong + ", 0)", x.told(wrong, 0), BAD);
        }
    }

    private static void doubled() {
        MetAngles x = with(1, 12, 3, 4, 0, 1);
        int[][] due = {{1, 12}, {1, 6}, {1, 3}, {2, 3}, {1, 3}};
        for (int n = 0; n < due.length; n++) {
            is("1/12 doubled " + n, x.doubled(0, n, 0), due[n][0]);
            is("1/12 doubled, lower part " + n, x.doubled(0, n, 1), due[n][1]);
        }
        is("1/12 doubled 99 times", x.doubled(0, 99, 0), 2);
        is("1/12 doubled 100 times", x.doubled(0, 100, 0), 1);
        is("3/4 doubled", x.doubled(1, 1, 0), 1);
        is("3/4 doubled, lower part", x.doubled(1, 1, 1), 2);
        is("3/4 doubled twice", x.doubled(1, 2, 0), 0);
        is("3/4 doubled twice, lower part", x.doubled(1, 2, 1), 1);
        is("0 doubled", x.doubled(2, 50, 1), 1);
        int[][] wrong = {{0, -1, 0}, {0, 101, 0}, {0, 0, -1}, {0, 0, 2}, {-1, 0, 0}, {3, 0, 0}, {0, LEAST, 0}, {0, MOST, 1},
            {MOST, 1, 1}, {LEAST, 1, 1}, {0, 1, MOST}};
        for (int[] w : wrong) {
            is("doubled(" + w[0] + ", " + w[1] + ", " + w[2] + ")", x.doubled(w[0], w[1], w[2]), BAD);
        }
        isFraction("after doubled", x, 0, 1, 12);
    }

    private static void all() {
        MetAngles x = new MetAngles();
        int[] due = {1, 2, 6, 12, 30, 54, 126, 240, 504, 990, 2046, 4020, 8190, 16254, 32730, 65280, 131070, 261576, 524286,
            1047540};
        for (int n = 1; n <= 20; n++) {
            is("all(" + n + ")", x.all(n), due[n - 1]);
        }
        for (int wrong : new int[] {0, -1, 21, LEAST, MOST}) {
            is("all(" + wrong + ")", x.all(wrong), BAD);
        }
    }

    private static void letter() {
        MetAngles x = with(1, 3, 1, 6, 0, 1, 1, 2, 9, 31);
        int[] third = {1, 2, 1, 2};
        for (int j = 0; j < third.length; j++) {
            is("1/3 by 1/3, letter " + j, x.letter(0, 0, j), third[j]);
        }
        is("1/6 by 1/3", x.letter(1, 0, 0), 2);
        is("0 by 1/3", x.letter(2, 0, 0), 0);
        is("1/2 by 1/3", x.letter(3, 0, 0), 1);
        is("1/2 by 1/3, then 0", x.letter(3, 0, 1), 0);
        is("1/3 by 0", x.letter(0, 2, 0), 1);
        is("2/3 by 0", x.letter(0, 2, 1), 0);
        is("0 by 0", x.letter(2, 2, 7), 2);
        int[] inner = {1, 1, 1, 1, 2};
        for (int j = 0; j <= 100; j++) {
            is("9/31 by 9/31, letter " + j, x.letter(4, 4, j), inner[j % 5]);
        }
        int[][] wrong = {{0, 0, -1}, {0, 0, 101}, {5, 0, 0}, {-1, 0, 0}, {0, 5, 0}, {0, -1, 0}, {0, 0, LEAST}, {0, 0, MOST},
            {LEAST, MOST, 0}};
        for (int[] w : wrong) {
            is("letter(" + w[0] + ", " + w[1] + ", " + w[2] + ")", x.letter(w[0], w[1], w[2]), BAD);
        }
    }

    private static void address() {
        MetAngles x = with(0, 1, 1, 3, 1, 15, 1, 5, 2, 5, 7, 15, 9, 31, 5, 31, 13, 31, 1, 2, 1, 509);
        int[][] due = {{1}, {1, 2}, {1, 4}, {1, 3, 4}, {1, 2, 4}, {1, 2, 3, 4}, {1, 5}, {1, 3, 5}, {1, 2, 4, 5}};
        for (int k = 0; k < due.length; k++) {
            for (int i = 0; i < due[k].length; i++) {
                is("address(" + k + ", " + i + ")", x.address(k, i), due[k][i]);
            }
            is("address beyond the end of " + k, x.address(k, due[k].length), NONE);
            is("address far beyond the end of " + k, x.address(k, MOST), NONE);
            is("address(" + k + ", -1)", x.address(k, -1), BAD);
        }
        is("address of 1/2", x.address(9, 0), STATE);
        is("address of 1/2 far out", x.address(9, MOST), STATE);
        is("address of 1/2 below 0", x.address(9, -1), BAD);
        is("address of 1/509", x.address(10, 0), 1);
        is("address of no ANGLE", x.address(11, 0), BAD);
        is("address of no ANGLE", x.address(-1, 0), BAD);
        MetAngles y = with(1, 509);
        int last = 0;
        int next = y.address(0, 0);
        for (int i = 1; i < 500 && next != NONE; i++) {
            last = next;
            next = y.address(0, i);
        }
        is("the address of 1/509 ends", next, NONE);
        is("the address of 1/509 ends with its LENGTH", last, 508);
    }

    private static void cross() {
        MetAngles x = with(1, 7, 3, 7, 2, 7, 4, 7, 3, 21, 0, 1, 1, 2);
        int[][] due = {{0, 1, 2, 3, 1}, {1, 0, 3, 2, 1}, {2, 3, 0, 1, 1}, {0, 2, 1, 3, 0}, {0, 3, 1, 2, 0}, {1, 2, 0, 3, 0},
            {0, 1, 0, 3, 0}, {0, 1, 4, 3, 0}, {0, 1, 2, 4, 0}, {0, 0, 1, 3, 0}, {0, 1, 2, 2, 0}, {2, 2, 0, 1, 0},
            {0, 0, 0, 0, 0}, {2, 2, 3, 3, 0}, {5, 6, 0, 3, 1}, {3, 0, 6, 5, 1}, {5, 3, 0, 6, 0}};
        for (int[] d : due) {
            is("cross(" + d[0] + ", " + d[1] + ", " + d[2] + ", " + d[3] + ")", x.cross(d[0], d[1], d[2], d[3]), d[4]);
        }
        for (int wrong : new int[] {-1, 7, LEAST, MOST}) {
            is("cross with " + wrong + " first", x.cross(wrong, 1, 2, 3), BAD);
            is("cross with " + wrong + " second", x.cross(0, wrong, 2, 3), BAD);
            is("cross with " + wrong + " third", x.cross(0, 1, wrong, 3), BAD);
            is("cross with " + wrong + " fourth", x.cross(0, 1, 2, wrong), BAD);
        }
    }

    private static void meet() {
        MetAngles x = with(1, 7, 2, 7, 4, 7, 3, 7, 1, 14, 9, 14, 1, 2, 1, 3, 2, 3, 0, 1, 1, 4, 10, 21);
        int[][] due = {{0, 1, 0, 1}, {1, 2, 0, 1}, {0, 2, 0, 1}, {0, 3, 0, 0}, {4, 5, 0, 1}, {5, 4, 0, 1}, {5, 0, 0, 0},
            {7, 8, 6, 1}, {9, 6, 6, 0}, {9, 10, 6, 0}, {7, 7, 7, 1}, {10, 10, 9, 1}, {7, 11, 9, 0}, {11, 7, 9, 0},
            // LENGTHS 2 and 3: the only LETTERS that are unlike stand at j = 4.
            {7, 2, 7, 0}, {2, 7, 7, 0}};
        for (int[] d : due) {
            is("meet(" + d[0] + ", " + d[1] + ", " + d[2] + ")", x.meet(d[0], d[1], d[2]), d[3]);
        }
        is("1/3 and 4/7 by 1/3, with nothing met ahead", with(1, 3, 4, 7).meet(0, 1, 0), 0);
        is("4/7 and 1/3 by 1/3, with nothing met ahead", with(1, 3, 4, 7).meet(1, 0, 0), 0);
        for (int wrong : new int[] {-1, 12, LEAST, MOST}) {
            is("meet with " + wrong + " first", x.meet(wrong, 1, 2), BAD);
            is("meet with " + wrong + " second", x.meet(0, wrong, 2), BAD);
            is("meet with " + wrong + " third", x.meet(0, 1, wrong), BAD);
        }
    }

    private static void pairs() {
        MetAngles x = new MetAngles();
        int[] due = {1, 1, 3, 6, 15, 27, 63, 120};
        for (int n = 1; n <= 8; n++) {
            is("pairs(" + n + ")", x.pairs(n), due[n - 1]);
        }
        for (int wrong : new int[] {0, -1, 9, LEAST, MOST}) {
            is("pairs(" + wrong + ")", x.pairs(wrong), BAD);
        }
    }

    private static void pair() {
        MetAngles x = new MetAngles();
        int[][] due = {{}, {0, 0}, {1, 2}, {1, 2, 3, 4, 5, 6}, {1, 2, 3, 4, 6, 9, 7, 8, 11, 12, 13, 14},
            {1, 2, 3, 4, 5, 6, 7, 8, 9, 10, 11, 12, 13, 18, 14, 17, 15, 16, 19, 20, 21, 22, 23, 24, 25, 26, 27, 28, 29, 30}};
        for (int n = 1; n < due.length; n++) {
            for (int i = 0; i < due[n].length; i++) {
                is("pair(" + n + ", " + i / 2 + ", " + i % 2 + ")", x.pair(n, i / 2, i % 2), due[n][i]);
            }
            is("pair beyond those of LENGTH " + n, x.pair(n, due[n].length / 2, 0), NONE);
            is("pair far beyond those of LENGTH " + n, x.pair(n, MOST, 1), NONE);
        }
        is("pair(8, 120, 0)", x.pair(8, 120, 0), NONE);
        int[][] wrong = {{0, 0, 0}, {9, 0, 0}, {-1, 0, 0}, {LEAST, 0, 0}, {MOST, 0, 0}, {3, -1, 0}, {3, LEAST, 0}, {3, 0, 2},
            {3, 0, -1}, {3, 99, 2}, {9, 999, 0}};
        for (int[] w : wrong) {
            is("pair(" + w[0] + ", " + w[1] + ", " + w[2] + ")", x.pair(w[0], w[1], w[2]), BAD);
        }
    }

    private static void partner() {
        MetAngles x = with(0, 1, 2, 3, 13, 31, 3, 5, 1, 2, 1, 6, 1, 511, 254, 255);
        int[][] due = {{0, 0, 1}, {1, 1, 3}, {2, 18, 31}, {3, 2, 5}, {7, 253, 255}};
        for (int i = 0; i < due.length; i++) {
            is("partner(" + due[i][0] + ")", x.partner(due[i][0]), 8 + i);
            isFraction("partner(" + due[i][0] + ")", x, 8 + i, due[i][1], due[i][2]);
        }
        is("partner of a partner", x.partner(9), 13);
        isFraction("partner of a partner", x, 13, 2, 3);
        for (int k = 4; k <= 6; k++) {
            is("partner(" + k + ")", x.partner(k), STATE);
        }
        for (int wrong : new int[] {-1, 14, LEAST, MOST}) {
            is("partner(" + wrong + ")", x.partner(wrong), BAD);
        }
        is("refused partners came", x.count(0), 14);
        MetAngles filled = full(1, 3, 1, 2);
        is("full: partner of 1/3", filled.partner(0), FULL);
        is("full: partner of 1/2", filled.partner(1), STATE);
        is("full: partner of no ANGLE", filled.partner(16), BAD);
    }

    private static void held() {
        MetAngles x = with(1, 2, 1, 3, 0, 1, 3, 7, 1, 4, 2, 3, 1, 509);
        int[][] due = {{0, 1, 0}, {0, 2, 1}, {0, 3, 2}, {0, 4, 4}, {0, 5, 7}, {0, 8, 37}, {1, 1, 0}, {1, 2, 1}, {1, 8, 1},
            {2, 1, 1}, {2, 8, 1}, {3, 2, 1}, {3, 3, 2}, {4, 2, 0}, {4, 3, 1}, {4, 4, 2}, {5, 2, 1}, {6, 8, 0}};
        for (int[] d : due) {
            is("held(" + d[0] + ", " + d[1] + ")", x.held(d[0], d[1]), d[2]);
        }
        int[][] wrong = {{0, 0}, {0, 9}, {0, -1}, {0, LEAST}, {0, MOST}, {7, 1}, {-1, 1}, {MOST, 1}};
        for (int[] w : wrong) {
            is("held(" + w[0] + ", " + w[1] + ")", x.held(w[0], w[1]), BAD);
        }
    }

    private static void holder() {
        MetAngles x = with(1, 2, 0, 1, 1, 7);
        int[][] due = {{2, 0}, {4, 2}, {5, 6}, {3, 1}, {5, 7}, {4, 3}, {5, 8}};
        for (int i = 0; i < due.length; i++) {
            is("holder " + i + " of 1/2, LENGTH", x.holder(0, 5, i, 0), due[i][0]);
            is("holder " + i + " of 1/2, which", x.holder(0, 5, i, 1), due[i][1]);
        }
        is("holder 7 of 1/2", x.holder(0, 5, 7, 0), NONE);
        is("holder far out", x.holder(0, 5, MOST, 0), NONE);
        is("holder 0 of 1/2 by LENGTH 1", x.holder(0, 1, 0, 0), NONE);
        is("holder 1 of 1/2 up to LENGTH 3", x.holder(0, 3, 1, 0), 3);
        is("holder of 0", x.holder(1, 8, 0, 0), 1);
        is("holder of 0, which", x.holder(1, 8, 0, 1), 0);
        is("second holder of 0", x.holder(1, 8, 1, 0), NONE);
        is("holder of 1/7", x.holder(2, 8, 0, 0), 3);
        int[][] wrong = {{0, 0, 0, 0}, {0, 9, 0, 0}, {0, 5, -1, 0}, {0, 5, 0, 2}, {0, 5, 0, -1}, {3, 5, 0, 0}, {-1, 5, 0, 0},
            {0, 5, LEAST, 0}, {0, MOST, 0, 0}, {0, 5, 99, 2}};
        for (int[] w : wrong) {
            is("holder(" + w[0] + ", " + w[1] + ", " + w[2] + ", " + w[3] + ")", x.holder(w[0], w[1], w[2], w[3]), BAD);
        }
    }

    private static void holds() {
        MetAngles x = with(1, 3, 3, 7, 2, 3, 4, 7, 0, 1, 1, 7, 1, 2, 1, 511);
        int[][] due = {{0, 1, 1}, {2, 3, 1}, {0, 3, 1}, {1, 0, 0}, {0, 2, 1}, {0, 0, 1}, {4, 0, 0}, {0, 4, 0}, {4, 4, 1},
            {0, 5, 0}, {5, 0, 0}, {0, 6, STATE}, {6, 0, STATE}, {7, 0, STATE}, {0, 7, STATE}, {8, 0, BAD}, {0, 8, BAD},
            {-1, 6, BAD}, {6, -1, BAD}, {LEAST, MOST, BAD}};
        for (int[] d : due) {
            is("holds(" + d[0] + ", " + d[1] + ")", x.holds(d[0], d[1]), d[2]);
        }
    }

    private static void between() {
        MetAngles x = with(1, 3, 15, 31, 16, 31, 1, 7, 1, 2, 1, 511, 3, 7, 0, 1);
        int[][] due = {{0, 1, 5, 5}, {1, 0, 5, 5}, {2, 0, 5, 5}, {0, 1, 4, 3}, {0, 1, 3, 1}, {0, 1, 2, 0}, {0, 1, 1, 0},
            {6, 1, 5, 2}, {0, 6, 8, 8}, {0, 0, 8, 0}, {1, 2, 8, 0}, {7, 7, 8, 0}, {0, 3, 8, STATE}, {3, 0, 8, STATE},
            {0, 7, 8, STATE}, {0, 4, 8, STATE}, {4, 0, 8, STATE}, {5, 0, 8, STATE}, {0, 5, 8, STATE}, {0, 1, 0, BAD},
            {0, 1, 9, BAD}, {0, 4, 9, BAD}, {0, 3, 0, BAD}, {8, 0, 8, BAD}, {0, 8, 8, BAD}, {-1, 0, 8, BAD},
            {0, LEAST, 8, BAD}, {0, 1, MOST, BAD}};
        for (int[] d : due) {
            is("between(" + d[0] + ", " + d[1] + ", " + d[2] + ")", x.between(d[0], d[1], d[2]), d[3]);
        }
    }

    private static void wide() {
        MetAngles x = with(1, 3, 2, 7, 0, 1, 1, 2, 1, 511, 2, 3);
        int[][] due = {{0, 1, 0}, {0, 2, 2}, {0, 3, 2}, {0, 4, 4}, {5, 4, 4}, {0, 20, 349180}, {1, 3, 2}, {1, 4, 2}, {2, 1, 1},
            {2, 2, 0}, {2, 20, 0}, {3, 3, STATE}, {4, 9, STATE}, {0, 0, BAD}, {0, 21, BAD}, {0, -1, BAD}, {3, 0, BAD},
            {6, 3, BAD}, {-1, 3, BAD}, {0, LEAST, BAD}, {0, MOST, BAD}};
        for (int[] d : due) {
            is("wide(" + d[0] + ", " + d[1] + ")", x.wide(d[0], d[1]), d[2]);
        }
    }

    private static void digit() {
        MetAngles x = with(22, 63, 0, 1, 1, 6, 1, 2);
        int[] word = {0, 1, 0, 1, 1, 0};
        for (int i = 0; i <= 100; i++) {
            is("22/63, digit " + i, x.digit(0, i), word[i % 6]);
        }
        is("0, digit 100", x.digit(1, 100), 0);
        is("digit of 1/6", x.digit(2, 0), STATE);
        is("digit of 1/2", x.digit(3, 100), STATE);
        int[][] wrong = {{0, -1}, {0, 101}, {2, 101}, {2, -1}, {4, 0}, {-1, 0}, {0, LEAST}, {0, MOST}, {MOST, 0}};
        for (int[] w : wrong) {
            is("digit(" + w[0] + ", " + w[1] + ")", x.digit(w[0], w[1]), BAD);
        }
    }

    private static void put() {
        MetAngles x = with(1, 3, 2, 3, 1, 7, 0, 1, 1, 11, 1, 23, 1, 6, 1, 511, 1, 255);
        int[][] due = {{0, 2, 22, 63}, {1, 2, 22, 63}, {2, 0, 10, 63}, {0, 3, 1, 3}, {1, 3, 1, 3}, {0, 4, 346, 1025}};
        for (int i = 0; i < due.length; i++) {
            String call = "put(" + due[i][0] + ", " + due[i][1] + ")";
            is(call, x.put(due[i][0], due[i][1]), 9 + i);
            isFraction(call, x, 9 + i, due[i][2], due[i][3]);
        }
        is("LENGTH of what was put", x.told(14, 3), 20);
        int[][] state = {{0, 5}, {3, 0}, {3, 3}, {6, 0}, {0, 6}, {7, 0}, {7, 3}, {8, 2}, {0, 14}};
        int[][] wrong = {{15, 0}, {0, 15}, {-1, 0}, {0, -1}, {3, MOST}, {LEAST, 0}};
        MetAngles filled = full(1, 3, 2, 3, 1, 7, 0, 1, 1, 11, 1, 23, 1, 6, 1, 511, 1, 255);
        for (int[] w : state) {
            is("put(" + w[0] + ", " + w[1] + ")", x.put(w[0], w[1]), STATE);
            is("full: put(" + w[0] + ", " + w[1] + ")", filled.put(w[0], w[1]), w[1] == 14 ? FULL : STATE);
        }
        for (int[] w : wrong) {
            is("put(" + w[0] + ", " + w[1] + ")", x.put(w[0], w[1]), BAD);
        }
        is("refused puts came", x.count(0), 15);
        is("full: put(0, 2)", filled.put(0, 2), FULL);
        is("full: put(0, 16)", filled.put(0, 16), BAD);
    }

    private static void take() {
        MetAngles x = with(1, 3, 2, 3, 1, 7, 0, 1, 22, 63, 10, 63, 1, 29, 1, 6, 1, 511, 1, 127);
        int[][] due = {{0, 4, 1, 7}, {1, 4, 1, 7}, {2, 5, 1, 3}, {0, 0, 0, 1}, {2, 2, 0, 1}};
        for (int i = 0; i < due.length; i++) {
            String call = "take(" + due[i][0] + ", " + due[i][1] + ")";
            is(call, x.take(due[i][0], due[i][1]), 10 + i);
            isFraction(call, x, 10 + i, due[i][2], due[i][3]);
        }
        int[][] none = {{0, 1}, {1, 1}, {0, 3}, {2, 4}, {0, 5}, {0, 2}, {0, 9}, {0, 8}, {9, 0}};
        int[][] state = {{0, 6}, {0, 7}, {7, 0}, {8, 0}, {8, 8}, {3, 0}, {3, 3}, {6, 0}};
        int[][] wrong = {{15, 0}, {0, 15}, {-1, 0}, {0, -1}, {3, MOST}, {LEAST, 7}};
        MetAngles filled = full(1, 3, 2, 3, 1, 7, 0, 1, 22, 63, 10, 63, 1, 29, 1, 6, 1, 511, 1, 127);
        for (int[] w : none) {
            is("take(" + w[0] + ", " + w[1] + ")", x.take(w[0], w[1]), NONE);
            is("full: take(" + w[0] + ", " + w[1] + ")", filled.take(w[0], w[1]), NONE);
        }
        for (int[] w : state) {
            is("take(" + w[0] + ", " + w[1] + ")", x.take(w[0], w[1]), STATE);
            is("full: take(" + w[0] + ", " + w[1] + ")", filled.take(w[0], w[1]), STATE);
        }
        for (int[] w : wrong) {
            is("take(" + w[0] + ", " + w[1] + ")", x.take(w[0], w[1]), BAD);
        }
        is("refused takes came", x.count(0), 15);
        is("full: take(0, 4)", filled.take(0, 4), FULL);
        MetAngles y = with(1, 3, 1, 11);
        is("put of LENGTH 20", y.put(0, 1), 2);
        is("take of LENGTH 20", y.take(0, 2), 3);
        isFraction("take of LENGTH 20", y, 3, 1, 11);
        is("take from 1/11, LENGTH 10", y.take(0, 1), NONE);
    }

    private static void sheet() {
        MetAngles x = new MetAngles();
        for (int k = 0; k < 4; k++) {
            is("sheet(" + k + ", 0, 60)", x.sheet(k, 0, 60), 1);
            is("CELL 59", x.lay(k, 59, 1), 1);
            is("CELL 60", x.lay(k, 60, 1), -12);
        }
        is("sheet(0, 1, 0)", x.sheet(0, 1, 0), 1);
        is("CELL 0 of none", x.lay(0, 0, 1), -12);
        is("sheet(0, 1, 2)", x.sheet(0, 1, 2), 1);
        is("lay(0, 1, 3)", x.lay(0, 1, 3), 1);
        is("CELLS at first are 0", x.scan(0, 1, 0, 1), 1);
        int[][] wrong = {{-1, 0, 1}, {4, 0, 1}, {0, -1, 1}, {0, 2, 1}, {0, 0, 61}, {4, 0, -1}, {0, 2, -1}, {LEAST, 0, 1},
            {MOST, 0, 1}, {0, MOST, 1}, {0, 0, MOST}};
        for (int[] w : wrong) {
            is("sheet(" + w[0] + ", " + w[1] + ", " + w[2] + ")", x.sheet(w[0], w[1], w[2]), BAD);
        }
        is("sheet(0, 0, -1)", x.sheet(0, 0, -1), -14);
        is("sheet(0, 0, least)", x.sheet(0, 0, LEAST), -14);
        is("refused sheets changed nothing", x.scan(0, 1, 0, 1), 2);
        is("sheet(0, 1, 2) again", x.sheet(0, 1, 2), 1);
        is("CELLS are 0 again", x.scan(0, 1, 0, 1), -21);
    }

    private static void lay() {
        MetAngles x = new MetAngles();
        x.sheet(0, 0, 2);
        x.sheet(1, 1, 2);
        long high = (1L << 32) + 3;
        for (int k = 0; k < 2; k++) {
            is("lay(" + k + ", 0, 2)", x.lay(k, 0, 2), 1);
            is("lay(" + k + ", 1, high)", x.lay(k, 1, high), 1);
            is("lay(" + k + ", 2, 1)", x.lay(k, 2, 1), -12);
            is("lay(" + k + ", -1, 1)", x.lay(k, -1, 1), -12);
            is("lay(" + k + ", least, 1)", x.lay(k, LEAST, 1), -12);
            is("lay(" + k + ", most, 1)", x.lay(k, MOST, 1), -12);
        }
        is("INTS keep the lowest bits", x.scan(0, 0, 0, 1), 1);
        isFraction("INTS keep the lowest bits", x, 0, 2, 3);
        is("LONGS keep all bits", x.scan(1, 1, 0, 1), -21);
        is("lay of nothing", x.lay(2, 0, 1), -11);
        is("lay of nothing, no CELL", x.lay(2, -1, 1), -11);
        for (int wrong : new int[] {-1, 4, LEAST, MOST}) {
            is("lay(" + wrong + ", 0, 1)", x.lay(wrong, 0, 1), BAD);
        }
    }

    private static void layAll(MetAngles x, int k, int lane, long... cells) {
        is("sheet(" + k + ", " + lane + ", " + cells.length + ")", x.sheet(k, lane, cells.length), 1);
        for (int i = 0; i < cells.length; i++) {
            is("lay(" + k + ", " + i + ", " + cells[i] + ")", x.lay(k, i, cells[i]), 1);
        }
    }

    private static void scan() {
        MetAngles x = new MetAngles();
        layAll(x, 0, 0, 9, 1, 3, 2, 14);
        layAll(x, 1, 1, 1, 5, 0, 1);
        is("scan of INTS", x.scan(0, 0, 1, 2), 2);
        isFraction("scan of INTS", x, 0, 1, 3);
        isFraction("scan of INTS", x, 1, 1, 7);
        is("scan of LONGS", x.scan(1, 1, 0, 2), 4);
        isFraction("scan of LONGS", x, 2, 1, 5);
        isFraction("scan of LONGS", x, 3, 0, 1);
        is("scan of no ANGLE", x.scan(0, 0, 0, 0), 4);
        is("scan of no ANGLE from nowhere", x.scan(0, 0, LEAST, 0), 4);
        is("scan of no ANGLE from far", x.scan(0, 0, MOST, 0), 4);
        is("scan of nothing", x.scan(2, 0, 0, 0), -11);
        is("scan of the other lane", x.scan(0, 1, 0, 0), -13);
        is("scan of the other lane", x.scan(1, 0, 9, 1), -13);
        for (int f : new int[] {-1, 4, 5, LEAST, LEAST + 1, MOST, MOST - 1}) {
            is("scan from " + f, x.scan(0, 0, f, 1), -12);
            is("scan of 16 from " + f, x.scan(0, 0, f, 16), -12);
        }
        int[][] wrong = {{-1, 0, 0, 1}, {4, 0, 0, 1}, {0, -1, 0, 1}, {0, 2, 0, 1}, {0, 0, 0, -1}, {0, 0, 0, 17}, {2, 2, 0, 1},
            {2, 0, 0, 17}, {0, 1, 0, -1}, {MOST, 0, 0, 1}, {0, LEAST, 0, 1}, {0, 0, 0, MOST}, {0, 0, 0, LEAST}};
        for (int[] w : wrong) {
            is("scan(" + w[0] + ", " + w[1] + ", " + w[2] + ", " + w[3] + ")", x.scan(w[0], w[1], w[2], w[3]), BAD);
        }
        is("refused scans brought none", x.count(0), 4);
    }

    private static void scanOrder() {
        MetAngles x = with(1, 3);
        layAll(x, 0, 1, 1, 5, 7, 7, 1, 7);
        is("BAD ahead of INDEX", x.scan(0, 1, 0, 4), -21);
        is("none came", x.count(0), 1);
        layAll(x, 0, 1, 1, 5, 1, 7, 7);
        is("INDEX of the second part", x.scan(0, 1, 0, 3), -12);
        is("none came", x.count(0), 1);
        layAll(x, 0, 0, 0, 1, 0, 1, 0, 1, 0, 1, 0, 1, 0, 1, 0, 1, 0, 1, 0, 1, 0, 1, 0, 1, 0, 1, 0, 1, 0, 1, 0, 1, 3, 3);
        is("scan of 15", x.scan(0, 0, 0, 15), 16);
        is("drop()", x.drop(), 15);
        is("FULL at the second", x.scan(0, 0, 0, 3), -23);
        is("none came", x.count(0), 15);
        is("BAD ahead of FULL", x.scan(0, 0, 28, 2), -21);
        is("none came", x.count(0), 15);
        is("the last free place", x.scan(0, 0, 0, 1), 16);
        is("FULL", x.scan(0, 0, 0, 1), -23);
        is("BAD while full", x.scan(0, 0, 30, 1), -21);
        is("INDEX while full", x.scan(0, 0, 31, 1), -12);
        is("no ANGLE while full", x.scan(0, 0, 31, 0), 16);
        MetAngles y = new MetAngles();
        layAll(y, 3, 1, 0, 1, 0, 1, 0, 1, 0, 1, 0, 1, 0, 1, 0, 1, 0, 1, 0, 1, 0, 1, 0, 1, 0, 1, 0, 1, 0, 1, 0, 1, 0, 1);
        is("scan of 16", y.scan(3, 1, 0, 16), 16);
        is("count(2)", y.count(2), 1);
    }

    private static void count() {
        MetAngles x = with(1, 3, 2, 6, 1, 2, 2, 3, 0, 1, 0, 5, 3, 12);
        is("count(0)", x.count(0), 7);
        is("count(1)", x.count(1), 5);
        is("count(2)", x.count(2), 5);
        is("drop()", x.drop(), 6);
        is("count(0)", x.count(0), 6);
        is("count(1)", x.count(1), 5);
        is("count(2)", x.count(2), 4);
        for (int wrong : new int[] {-1, 3, LEAST, MOST}) {
            is("count(" + wrong + ")", x.count(wrong), BAD);
        }
    }
}
