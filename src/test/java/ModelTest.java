import java.util.Random;

/** Long runs of calls, right and wrong ones mixed, on the class and on the slow model beside it. */
public final class ModelTest {
    private static final int RUNS = 600;
    private static final int CALLS = 250;
    private static final int[] EXTREMES = {Integer.MIN_VALUE, -2, -1, 0, 1, 16, 17, 100, 101, Integer.MAX_VALUE};

    private final Random random;
    private final MetAngles real = new MetAngles();
    private final Model model = new Model();
    private final Due due;
    private final int run;

    private ModelTest(int run, Due due) {
        this.run = run;
        this.due = due;
        this.random = new Random(7919L * run + 1);
    }

    public static void main(String[] args) {
        Due due = new Due();
        for (int run = 0; run < RUNS; run++) {
            ModelTest test = new ModelTest(run, due);
            for (int call = 0; call < CALLS; call++) {
                test.callOne();
            }
        }
        due.end();
    }

    private int from(int least, int most) {
        if (random.nextInt(40) == 0) {
            return EXTREMES[random.nextInt(EXTREMES.length)];
        }
        if (random.nextInt(30) == 0) {
            return random.nextBoolean() ? least - 1 : most + 1;
        }
        return least + random.nextInt(Math.max(1, most - least + 1));
    }

    private int number() {
        return from(0, model.count(0) - 1);
    }

    private long[] fraction() {
        switch (random.nextInt(8)) {
            case 0:
                return new long[] {from(0, 511), from(1, 511)};
            case 1:
                long low = 1 + random.nextInt(511);
                return new long[] {random.nextInt((int) low), low};
            case 2:
                long even = 2 * (1 + random.nextInt(40));
                return new long[] {random.nextInt((int) even), even};
            case 3:
                return new long[] {random.nextInt(3), random.nextInt(4)};
            case 4:
                return new long[] {random.nextLong(), random.nextBoolean() ? 7 : random.nextLong()};
            default:
                long full = (1L << 1 + random.nextInt(run % 2 == 0 ? 9 : 4)) - 1;
                return new long[] {random.nextInt((int) full), full};
        }
    }

    private void is(String call, int got, int want) {
        due.is("run " + run + ": " + call, got, want);
    }

    private void callOne() {
        if (random.nextInt(4) == 0) {
            angle();
            return;
        }
        switch (random.nextInt(3)) {
            case 0:
                callAngles(number(), number(), number());
                break;
            case 1:
                callPartners(number(), number(), from(1, 8), from(0, 1));
                break;
            default:
                callRest(number(), number());
                break;
        }
    }

    private void angle() {
        long[] f = fraction();
        is("angle(" + f[0] + ", " + f[1] + ")", real.angle(f[0], f[1]), model.angle(f[0], f[1]));
    }

    private void callAngles(int a, int b, int c) {
        int what = from(0, 3);
        int n = from(0, 100);
        int which = from(0, 1);
        switch (random.nextInt(9)) {
            case 0:
                is("drop()", real.drop(), model.drop());
                break;
            case 1:
                is("told(" + a + ", " + what + ")", real.told(a, what), model.told(a, what));
                break;
            case 2:
                is("doubled(" + a + ", " + n + ", " + which + ")", real.doubled(a, n, which), model.doubled(a, n, which));
                break;
            case 3:
                int length = from(1, 20);
                is("all(" + length + ")", real.all(length), model.all(length));
                break;
            case 4:
                is("letter(" + a + ", " + b + ", " + n + ")", real.letter(a, b, n), model.letter(a, b, n));
                break;
            case 5:
                int i = from(0, 6);
                is("address(" + a + ", " + i + ")", real.address(a, i), model.address(a, i));
                break;
            case 6:
                int d = number();
                is("cross(" + a + ", " + b + ", " + c + ", " + d + ")", real.cross(a, b, c, d), model.cross(a, b, c, d));
                break;
            case 7:
                is("meet(" + a + ", " + b + ", " + c + ")", real.meet(a, b, c), model.meet(a, b, c));
                break;
            default:
                is("drop()", real.drop(), model.drop());
                break;
        }
    }

    private void callPartners(int k, int q, int n, int what) {
        switch (random.nextInt(8)) {
            case 0:
                is("pairs(" + n + ")", real.pairs(n), model.pairs(n));
                break;
            case 1:
                int i = from(0, n == 8 ? 119 : 20);
                is("pair(" + n + ", " + i + ", " + what + ")", real.pair(n, i, what), model.pair(n, i, what));
                break;
            case 2:
                is("partner(" + k + ")", real.partner(k), model.partner(k));
                break;
            case 3:
                is("held(" + k + ", " + n + ")", real.held(k, n), model.held(k, n));
                break;
            case 4:
                int h = from(0, 8);
                is("holder(" + k + ", " + n + ", " + h + ", " + what + ")",
                    real.holder(k, n, h, what), model.holder(k, n, h, what));
                break;
            case 5:
                is("holds(" + k + ", " + q + ")", real.holds(k, q), model.holds(k, q));
                break;
            case 6:
                is("between(" + k + ", " + q + ", " + n + ")", real.between(k, q, n), model.between(k, q, n));
                break;
            default:
                int length = from(1, random.nextInt(10) == 0 ? 20 : 12);
                is("wide(" + k + ", " + length + ")", real.wide(k, length), model.wide(k, length));
                break;
        }
    }

    private void callRest(int k, int x) {
        int sheet = from(0, 3);
        int lane = from(0, 1);
        switch (random.nextInt(8)) {
            case 0:
                int i = from(0, 100);
                is("digit(" + k + ", " + i + ")", real.digit(k, i), model.digit(k, i));
                break;
            case 1:
                is("put(" + k + ", " + x + ")", real.put(k, x), model.put(k, x));
                break;
            case 2:
                is("take(" + k + ", " + x + ")", real.take(k, x), model.take(k, x));
                break;
            case 3:
                int size = from(0, random.nextBoolean() ? 60 : 8);
                is("sheet(" + sheet + ", " + lane + ", " + size + ")",
                    real.sheet(sheet, lane, size), model.sheet(sheet, lane, size));
                break;
            case 4:
                layFraction(sheet);
                break;
            case 5:
                int f = from(0, 8);
                int n = from(0, random.nextBoolean() ? 2 : 16);
                is("scan(" + sheet + ", " + lane + ", " + f + ", " + n + ")",
                    real.scan(sheet, lane, f, n), model.scan(sheet, lane, f, n));
                break;
            case 6:
                int what = from(0, 2);
                is("count(" + what + ")", real.count(what), model.count(what));
                break;
            default:
                is("drop()", real.drop(), model.drop());
                break;
        }
    }

    private void layFraction(int sheet) {
        long[] f = fraction();
        int i = from(0, 7);
        long high = random.nextInt(6) == 0 ? random.nextLong() << 32 : 0;
        is("lay(" + sheet + ", " + i + ", " + (f[0] + high) + ")",
            real.lay(sheet, i, f[0] + high), model.lay(sheet, i, f[0] + high));
        is("lay(" + sheet + ", " + (i + 1) + ", " + f[1] + ")", real.lay(sheet, i + 1, f[1]), model.lay(sheet, i + 1, f[1]));
    }
}
