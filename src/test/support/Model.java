import java.math.BigInteger;
import java.util.ArrayList;
import java.util.Arrays;
import java.util.HashMap;
import java.util.List;
import java.util.Map;

/**
 * The document once more, by slow and other ways than the class takes: texts of digits, maps of what was seen,
 * regions instead of crossings, and plain counting.
 */
final class Model {
    static final int BAD = -1, STATE = -2, FULL = -3, NONE = -4;

    /** A fraction in lowest terms. */
    record Part(long up, long low) implements Comparable<Part> {
        static Part of(long up, long low) {
            long shared = BigInteger.valueOf(up).gcd(BigInteger.valueOf(low)).longValue();
            return new Part(up / shared, low / shared);
        }

        Part twice() {
            return low % 2 == 0 ? new Part(up % (low / 2), low / 2) : new Part(2 * up % low, low);
        }

        @Override
        public int compareTo(Part other) {
            return Long.compare(up * other.low, other.up * low);
        }

        boolean within(Part a, Part b) {
            return compareTo(a) > 0 && compareTo(b) < 0;
        }
    }

    /** The way of an ANGLE: all places up to the first that comes again. */
    record Way(List<Part> places, int tail) {
        static Way of(Part x) {
            List<Part> places = new ArrayList<>();
            Map<Part, Integer> seen = new HashMap<>();
            Part now = x;
            while (!seen.containsKey(now)) {
                seen.put(now, places.size());
                places.add(now);
                now = now.twice();
            }
            return new Way(places, seen.get(now));
        }

        int length() {
            return places.size() - tail;
        }

        Part at(int j) {
            return places.get(j < places.size() ? j : tail + (j - tail) % length());
        }
    }

    record Pair(int length, int index, int lessUp, int greaterUp, Part less, Part greater) {
        boolean holds(Part x) {
            return less.compareTo(x) <= 0 && x.compareTo(greater) <= 0;
        }

        boolean holds(Pair other) {
            return holds(other.less) && holds(other.greater);
        }
    }

    static final List<Pair> PAIRS = allPairs();
    private static final Map<Integer, long[]> COME_BACK = new HashMap<>();

    private final List<Part> angles = new ArrayList<>();
    private final Object[] sheets = new Object[4];

    private static long full(int n) {
        return (1L << n) - 1;
    }

    private static String digits(long up, int n) {
        StringBuilder text = new StringBuilder(Long.toBinaryString(up));
        while (text.length() < n) {
            text.insert(0, '0');
        }
        return text.toString();
    }

    private static boolean hasLength(long up, int n) {
        String word = digits(up, n);
        return up < full(n) && (word + word).indexOf(word, 1) == n;
    }

    static long[] comeBack(int n) {
        return COME_BACK.computeIfAbsent(n, key -> {
            long[] found = new long[1 << n];
            int size = 0;
            for (long up = 0; up < full(n); up++) {
                if (hasLength(up, n)) {
                    found[size++] = up;
                }
            }
            return Arrays.copyOf(found, size);
        });
    }

    /** Those of one LENGTH that lie in the same region of all shorter LEAVES are joined two by two from the least on. */
    private static List<Pair> allPairs() {
        List<Pair> pairs = new ArrayList<>();
        pairs.add(new Pair(1, 0, 0, 0, Part.of(0, 1), Part.of(0, 1)));
        for (int n = 2; n <= 8; n++) {
            Map<Pair, Integer> waiting = new HashMap<>();
            List<int[]> joined = new ArrayList<>();
            for (int up = 0; up < full(n); up++) {
                if (!hasLength(up, n)) {
                    continue;
                }
                Pair region = innermost(pairs, Part.of(up, full(n)));
                Integer first = waiting.remove(region);
                if (first == null) {
                    waiting.put(region, up);
                } else {
                    joined.add(new int[] {first, up});
                }
            }
            joined.sort((a, b) -> Integer.compare(a[0], b[0]));
            for (int i = 0; i < joined.size(); i++) {
                int[] ends = joined.get(i);
                pairs.add(new Pair(n, i, ends[0], ends[1], Part.of(ends[0], full(n)), Part.of(ends[1], full(n))));
            }
        }
        return pairs;
    }

    private static Pair innermost(List<Pair> pairs, Part x) {
        Pair inner = null;
        for (Pair pair : pairs) {
            if (pair.holds(x) && (inner == null || inner.holds(pair))) {
                inner = pair;
            }
        }
        return inner;
    }

    private boolean has(int... numbers) {
        for (int k : numbers) {
            if (k < 0 || k >= angles.size()) {
                return false;
            }
        }
        return true;
    }

    private static boolean in(long n, long least, long most) {
        return n >= least && n <= most;
    }

    private int come(Part x) {
        if (angles.size() == 16) {
            return FULL;
        }
        angles.add(x);
        return angles.size() - 1;
    }

    private Way way(int k) {
        return Way.of(angles.get(k));
    }

    private static Pair pairOf(Part x) {
        for (Pair pair : PAIRS) {
            if (pair.less.equals(x) || pair.greater.equals(x)) {
                return pair;
            }
        }
        return null;
    }

    private static int letter(Part x, Part t) {
        Part half = Part.of(t.up, 2 * t.low);
        Part otherHalf = Part.of(t.up + t.low, 2 * t.low);
        if (x.equals(half) || x.equals(otherHalf)) {
            return 2;
        }
        return x.within(half, otherHalf) ? 1 : 0;
    }

    private static int[] letters(Way way, Part t) {
        int[] word = new int[way.places.size()];
        for (int j = 0; j < word.length; j++) {
            word[j] = letter(way.places.get(j), t);
        }
        return word;
    }

    int angle(long a, long b) {
        return !in(b, 1, 511) || !in(a, 0, b - 1) ? BAD : come(Part.of(a, b));
    }

    int drop() {
        if (angles.isEmpty()) {
            return NONE;
        }
        angles.remove(angles.size() - 1);
        return angles.size();
    }

    int told(int k, int what) {
        if (!has(k) || !in(what, 0, 3)) {
            return BAD;
        }
        long[] all = {angles.get(k).up, angles.get(k).low, way(k).tail, way(k).length()};
        return (int) all[what];
    }

    int doubled(int k, int n, int what) {
        if (!has(k) || !in(n, 0, 100) || !in(what, 0, 1)) {
            return BAD;
        }
        Part now = angles.get(k);
        for (int i = 0; i < n; i++) {
            now = now.twice();
        }
        return (int) (what == 0 ? now.up : now.low);
    }

    int all(int n) {
        return in(n, 1, 20) ? comeBack(n).length : BAD;
    }

    int letter(int x, int t, int j) {
        return has(x, t) && in(j, 0, 100) ? letter(way(x).at(j), angles.get(t)) : BAD;
    }

    int address(int t, int i) {
        if (!has(t) || i < 0) {
            return BAD;
        }
        Way way = way(t);
        if (way.tail != 0) {
            return STATE;
        }
        int[] inner = letters(way, angles.get(t));
        List<Integer> numbers = new ArrayList<>(List.of(1));
        while (numbers.get(numbers.size() - 1) < way.length()) {
            int s = numbers.get(numbers.size() - 1);
            int j = s + 1;
            while (inner[j - 1] == inner[j - 1 - s]) {
                j++;
            }
            numbers.add(j);
        }
        return i < numbers.size() ? numbers.get(i) : NONE;
    }

    int cross(int a, int b, int c, int d) {
        if (!has(a, b, c, d)) {
            return BAD;
        }
        Part less = angles.get(a);
        Part greater = angles.get(b);
        if (less.compareTo(greater) > 0) {
            Part other = less;
            less = greater;
            greater = other;
        }
        Part one = angles.get(c);
        Part two = angles.get(d);
        if (one.equals(less) || one.equals(greater) || two.equals(less) || two.equals(greater)) {
            return 0;
        }
        return one.within(less, greater) != two.within(less, greater) ? 1 : 0;
    }

    int meet(int x, int y, int t) {
        if (!has(x, y, t)) {
            return BAD;
        }
        Way one = way(x);
        Way other = way(y);
        int[] word = letters(one, angles.get(t));
        int[] otherWord = letters(other, angles.get(t));
        int end = 10 + one.length() * other.length();
        for (int j = 0, i = 0, o = 0; j < end; j++) {
            if (word[i] != otherWord[o] && word[i] != 2 && otherWord[o] != 2) {
                return 0;
            }
            i = i + 1 < word.length ? i + 1 : one.tail;
            o = o + 1 < otherWord.length ? o + 1 : other.tail;
        }
        return 1;
    }

    int pairs(int n) {
        return in(n, 1, 8) ? (int) PAIRS.stream().filter(p -> p.length == n).count() : BAD;
    }

    int pair(int n, int i, int what) {
        if (!in(n, 1, 8) || i < 0 || !in(what, 0, 1)) {
            return BAD;
        }
        for (Pair pair : PAIRS) {
            if (pair.length == n && pair.index == i) {
                return what == 0 ? pair.lessUp : pair.greaterUp;
            }
        }
        return NONE;
    }

    int partner(int k) {
        if (!has(k)) {
            return BAD;
        }
        Pair pair = pairOf(angles.get(k));
        if (pair == null) {
            return STATE;
        }
        return come(pair.less.equals(angles.get(k)) ? pair.greater : pair.less);
    }

    private List<Pair> holders(Part x, int n) {
        List<Pair> holders = new ArrayList<>(PAIRS.stream().filter(p -> p.length <= n && p.holds(x)).toList());
        holders.sort((a, b) -> a.equals(b) ? 0 : a.holds(b) ? -1 : 1);
        return holders;
    }

    int held(int k, int n) {
        return has(k) && in(n, 1, 8) ? holders(angles.get(k), n).size() : BAD;
    }

    int holder(int k, int n, int i, int what) {
        if (!has(k) || !in(n, 1, 8) || i < 0 || !in(what, 0, 1)) {
            return BAD;
        }
        List<Pair> holders = holders(angles.get(k), n);
        if (i >= holders.size()) {
            return NONE;
        }
        return what == 0 ? holders.get(i).length : holders.get(i).index;
    }

    int holds(int k, int q) {
        if (!has(k, q)) {
            return BAD;
        }
        Pair one = pairOf(angles.get(k));
        Pair other = pairOf(angles.get(q));
        if (one == null || other == null) {
            return STATE;
        }
        return one.holds(other) ? 1 : 0;
    }

    int between(int k, int q, int n) {
        if (!has(k, q) || !in(n, 1, 8)) {
            return BAD;
        }
        Pair one = pairOf(angles.get(k));
        Pair other = pairOf(angles.get(q));
        if (one == null || other == null || !one.holds(other) && !other.holds(one)) {
            return STATE;
        }
        Pair outer = one.holds(other) ? one : other;
        Pair inner = outer == one ? other : one;
        return (int) PAIRS.stream()
            .filter(p -> p.length <= n && p != outer && p != inner && outer.holds(p) && p.holds(inner)).count();
    }

    int wide(int k, int n) {
        if (!has(k) || !in(n, 1, 20)) {
            return BAD;
        }
        Pair pair = pairOf(angles.get(k));
        return pair == null ? STATE : wide(pair, n);
    }

    static int wide(Pair pair, int n) {
        int amount = 0;
        for (long up : comeBack(n)) {
            if (pair.holds(new Part(up, full(n)))) {
                amount++;
            }
        }
        return amount;
    }

    private static String digits(Part x, int n) {
        return digits(x.up * (full(n) / x.low), n);
    }

    int digit(int k, int i) {
        if (!has(k) || !in(i, 0, 100)) {
            return BAD;
        }
        Way way = way(k);
        return way.tail != 0 ? STATE : 2 * way.at(i).up > way.at(i).low ? 1 : 0;
    }

    static Part put(Pair pair, String digits) {
        StringBuilder text = new StringBuilder();
        for (char c : digits.toCharArray()) {
            text.append(digits(c == '0' ? pair.lessUp : pair.greaterUp, pair.length));
        }
        return Part.of(Long.parseLong(text.toString(), 2), full(text.length()));
    }

    int put(int k, int x) {
        if (!has(k, x)) {
            return BAD;
        }
        Pair pair = pairOf(angles.get(k));
        Way into = way(x);
        if (pair == null || pair.length == 1 || into.tail != 0 || pair.length * into.length() > 20) {
            return STATE;
        }
        return come(put(pair, digits(angles.get(x), into.length())));
    }

    int take(int k, int x) {
        if (!has(k, x)) {
            return BAD;
        }
        Pair pair = pairOf(angles.get(k));
        Way from = way(x);
        if (pair == null || pair.length == 1 || from.tail != 0 || from.length() > 20) {
            return STATE;
        }
        for (int n = 1; n * pair.length <= 20; n++) {
            if (n * pair.length % from.length() != 0) {
                continue;
            }
            for (long up : comeBack(n)) {
                if (put(pair, digits(up, n)).equals(angles.get(x))) {
                    return come(Part.of(up, full(n)));
                }
            }
        }
        return NONE;
    }

    int sheet(int k, int lane, int n) {
        if (!in(k, 0, 3) || !in(lane, 0, 1) || n > 60) {
            return BAD;
        }
        if (n < 0) {
            return -14;
        }
        sheets[k] = lane == 0 ? new int[n] : new long[n];
        return 1;
    }

    int lay(int k, int i, long v) {
        if (!in(k, 0, 3)) {
            return BAD;
        }
        try {
            if (sheets[k] instanceof int[] ints) {
                ints[i] = (int) v;
            } else {
                ((long[]) sheets[k])[i] = v;
            }
            return 1;
        } catch (NullPointerException fault) {
            return -11;
        } catch (ArrayIndexOutOfBoundsException fault) {
            return -12;
        }
    }

    int scan(int k, int lane, int f, int n) {
        if (!in(k, 0, 3) || !in(lane, 0, 1) || !in(n, 0, 16)) {
            return BAD;
        }
        if (sheets[k] == null) {
            return -11;
        }
        List<Part> before = new ArrayList<>(angles);
        int answer = scanMachine(sheets[k], lane, f, n);
        if (answer < 0) {
            angles.clear();
            angles.addAll(before);
        }
        return answer;
    }

    private int scanMachine(Object sheet, int lane, int f, int n) {
        try {
            int[] ints = lane == 0 ? (int[]) sheet : null;
            long[] longs = lane == 1 ? (long[]) sheet : null;
            for (int i = 0; i < n; i++) {
                int at = f + 2 * i;
                int answer = lane == 0 ? angle(ints[at], ints[at + 1]) : angle(longs[at], longs[at + 1]);
                if (answer < 0) {
                    return -20 + answer;
                }
            }
            return angles.size();
        } catch (ClassCastException fault) {
            return -13;
        } catch (ArrayIndexOutOfBoundsException fault) {
            return -12;
        }
    }

    int count(int what) {
        switch (what) {
            case 0:
                return angles.size();
            case 1:
                return (int) angles.stream().filter(x -> x.low % 2 == 1).count();
            case 2:
                return (int) angles.stream().distinct().count();
            default:
                return BAD;
        }
    }
}
