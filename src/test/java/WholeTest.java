/** All there is of a kind: all PAIRS, all that they HOLD, all ADDRESSES of small lower parts, all that can be PUT and taken. */
public final class WholeTest {
    private static final Due DUE = new Due();

    public static void main(String[] args) {
        for (Model.Pair pair : Model.PAIRS) {
            pairAsDue(pair);
            holdersAsDue(pair);
            wideAsDue(pair);
            putAndTaken(pair);
            takenFromOthers(pair);
        }
        putIntoTen();
        pairsInPairs();
        for (int low = 1; low <= 511; low++) {
            anglesAsDue(low);
        }
        DUE.end();
    }

    private static long full(int n) {
        return (1L << n) - 1;
    }

    private static String text(Model.Pair pair) {
        return pair.lessUp() + " and " + pair.greaterUp() + " of LENGTH " + pair.length();
    }

    private static MetAngles withEnds(Model.Pair pair) {
        MetAngles x = new MetAngles();
        x.angle(pair.lessUp(), full(pair.length()));
        x.angle(pair.greaterUp(), full(pair.length()));
        return x;
    }

    private static void pairAsDue(Model.Pair pair) {
        MetAngles x = withEnds(pair);
        DUE.is(text(pair) + ": LESS", x.pair(pair.length(), pair.index(), 0), pair.lessUp());
        DUE.is(text(pair) + ": GREATER", x.pair(pair.length(), pair.index(), 1), pair.greaterUp());
        DUE.is(text(pair) + ": partner(0)", x.partner(0), 2);
        DUE.is(text(pair) + ": partner(1)", x.partner(1), 3);
        for (int what = 0; what < 4; what++) {
            DUE.is(text(pair) + ": partner of the LESS, " + what, x.told(2, what), x.told(1, what));
            DUE.is(text(pair) + ": partner of the GREATER, " + what, x.told(3, what), x.told(0, what));
        }
        DUE.is(text(pair) + ": holds itself", x.holds(1, 0), 1);
        DUE.is(text(pair) + ": nothing between itself", x.between(0, 1, 8), 0);
    }

    private static void holdersAsDue(Model.Pair pair) {
        MetAngles x = withEnds(pair);
        Model model = new Model();
        model.angle(pair.lessUp(), full(pair.length()));
        model.angle(pair.greaterUp(), full(pair.length()));
        for (int k = 0; k < 2; k++) {
            for (int n = 1; n <= 8; n++) {
                DUE.is(text(pair) + ": held(" + k + ", " + n + ")", x.held(k, n), model.held(k, n));
            }
            int holders = x.held(k, 8);
            for (int i = 0; i <= holders; i++) {
                DUE.is(text(pair) + ": holder LENGTH " + i, x.holder(k, 8, i, 0), model.holder(k, 8, i, 0));
                DUE.is(text(pair) + ": holder " + i, x.holder(k, 8, i, 1), model.holder(k, 8, i, 1));
            }
        }
    }

    private static void wideAsDue(Model.Pair pair) {
        MetAngles x = withEnds(pair);
        for (int n = 1; n <= 20; n++) {
            if (n <= 12 || pair.index() % 20 == 0) {
                DUE.is(text(pair) + ": wide(1, " + n + ")", x.wide(1, n), Model.wide(pair, n));
            }
        }
    }

    private static void putAndTaken(Model.Pair pair) {
        for (int n = 1; n <= 9 && n * pair.length() <= 20 && pair.length() > 1; n++) {
            for (long up : Model.comeBack(n)) {
                putAndTaken(pair, up, full(n), n);
            }
        }
    }

    /** Of LENGTH 10, the greatest into which a PAIR can be PUT, only these lower parts can be made. */
    private static void putIntoTen() {
        Model.Pair pair = Model.PAIRS.get(1);
        for (int low : new int[] {11, 33, 93, 341}) {
            for (int up = 1; up < low; up++) {
                MetAngles x = new MetAngles();
                x.angle(up, low);
                if (x.told(0, 3) == 10) {
                    putAndTaken(pair, up, low, 10);
                }
            }
        }
    }

    /** Nearly all have none: it is as due, that these are refused. */
    private static void takenFromOthers(Model.Pair pair) {
        if (pair.length() == 1) {
            return;
        }
        for (int low = 3 + 2 * (pair.index() % 6); low <= 511; low += 12) {
            MetAngles x = withEnds(pair);
            Model model = new Model();
            model.angle(pair.lessUp(), full(pair.length()));
            model.angle(pair.greaterUp(), full(pair.length()));
            for (int k = 2; k < 8; k++) {
                int up = (pair.lessUp() * low / (int) full(pair.length()) + k) % low;
                String text = text(pair) + " taken out of " + up + "/" + low;
                x.angle(up, low);
                model.angle(up, low);
                DUE.is(text, x.take(k % 2, k), model.take(k % 2, k));
                DUE.is(text + ", all ANGLES", x.count(0), model.count(0));
            }
        }
    }

    private static void putAndTaken(Model.Pair pair, long up, long low, int n) {
        MetAngles x = withEnds(pair);
        String text = text(pair) + " put into " + up + "/" + low;
        x.angle(up, low);
        DUE.is(text, x.put(1, 2), 3);
        DUE.is(text + ", its LENGTH", x.told(3, 3), pair.length() * n);
        DUE.is(text + " and taken", x.take(0, 3), 4);
        DUE.is(text + " and taken, numerator", x.told(4, 0), x.told(2, 0));
        DUE.is(text + " and taken, lower part", x.told(4, 1), x.told(2, 1));
        for (int i = 0; i < pair.length() * n; i++) {
            int end = x.digit(2, i / pair.length()) == 0 ? 0 : 1;
            DUE.is(text + ", digit " + i, x.digit(3, i), x.digit(end, i % pair.length()));
        }
    }

    private static void pairsInPairs() {
        for (Model.Pair one : Model.PAIRS) {
            for (Model.Pair other : Model.PAIRS) {
                if ((one.index() + 3 * other.index() + one.length()) % 7 != 0) {
                    continue;
                }
                Model model = new Model();
                MetAngles x = new MetAngles();
                model.angle(one.lessUp(), full(one.length()));
                x.angle(one.lessUp(), full(one.length()));
                model.angle(other.greaterUp(), full(other.length()));
                x.angle(other.greaterUp(), full(other.length()));
                DUE.is(text(one) + " holds " + text(other), x.holds(0, 1), model.holds(0, 1));
                int n = 1 + (one.index() + other.index()) % 8;
                DUE.is(text(one) + " between " + text(other), x.between(0, 1, 8), model.between(0, 1, 8));
                DUE.is(text(one) + " between " + text(other) + " up to " + n, x.between(0, 1, n), model.between(0, 1, n));
            }
        }
    }

    private static void anglesAsDue(int low) {
        Model model = new Model();
        MetAngles x = new MetAngles();
        for (int up = low / 3; up < low && up < low / 3 + 8; up++) {
            String text = up + "/" + low;
            int k = x.angle(up, low);
            model.angle(up, low);
            for (int what = 0; what < 4; what++) {
                DUE.is(text + " told " + what, x.told(k, what), model.told(k, what));
            }
            for (int i = 0; i < 8; i++) {
                DUE.is(text + " address " + i, x.address(k, i), model.address(k, i));
                DUE.is(text + " letter " + i, x.letter(0, k, i), model.letter(0, k, i));
                DUE.is(text + " doubled " + i, x.doubled(k, i, i % 2), model.doubled(k, i, i % 2));
            }
            DUE.is(text + " meets by itself", x.meet(0, k, k), model.meet(0, k, k));
        }
    }
}
