import java.util.ArrayList;
import java.util.List;

/** Every call with every mix of numbers at, beside and far from the document's bounds, on the class and on the model. */
public final class ExtremesTest {
    private static final Due DUE = new Due();
    private static final int LEAST = Integer.MIN_VALUE, MOST = Integer.MAX_VALUE;
    private static final long[] INTS = {LEAST, LEAST + 1, -2, -1, 0, 1, 2, 3, 4, 5, 8, 9, 15, 16, 17, 20, 21, 59, 60, 61, 99,
        100, 101, MOST - 1, MOST};
    private static final long[] LONGS = {Long.MIN_VALUE, LEAST, -(1L << 32), -1, 0, 1, 2, 3, 7, 255, 256, 509, 510, 511, 512,
        1L << 32, (1L << 32) + 3, MOST, Long.MAX_VALUE};
    private static final List<String> SIXTEEN = List.of("0/1", "1/3", "2/3", "1/2", "3/7", "1/511", "255/511", "1/510",
        "127/255", "16/31", "1/11", "1/49", "22/63", "1/509", "2/5", "3/12");
    /** An object is looked at again from the start behind so many calls: what it answers behind 512 is free. */
    private static final int CALLS = 300;

    private final List<Call> start;
    private MetAngles real;
    private Model model;
    private int calls;

    private ExtremesTest(List<Call> start) {
        this.start = start;
        again();
    }

    public static void main(String[] args) {
        for (int angles : new int[] {0, 5, 15, 16}) {
            ExtremesTest test = new ExtremesTest(startWith(angles));
            for (String name : Call.names()) {
                test.cross(name, new long[Call.types(name).length], 0);
            }
        }
        DUE.end();
    }

    private static List<Call> startWith(int angles) {
        List<Call> start = new ArrayList<>();
        for (String fraction : SIXTEEN.subList(0, angles)) {
            String[] parts = fraction.split("/");
            start.add(new Call("angle", Long.parseLong(parts[0]), Long.parseLong(parts[1])));
        }
        start.add(new Call("sheet", 0, 0, 6));
        start.add(new Call("sheet", 1, 1, 60));
        for (int sheet = 0; sheet < 2; sheet++) {
            for (int cell = 0; cell < 6; cell++) {
                start.add(new Call("lay", sheet, cell, 2L * cell + 1));
            }
        }
        return start;
    }

    private void again() {
        real = new MetAngles();
        model = new Model();
        calls = 0;
        for (Call call : start) {
            both(call);
        }
    }

    private void both(Call call) {
        DUE.is(call + " behind " + start.size() + " calls", call.on(real), call.on(model));
        calls++;
    }

    private void cross(String name, long[] values, int place) {
        Class<?>[] types = Call.types(name);
        if (place == types.length) {
            if (calls >= CALLS) {
                allSeen();
                again();
            }
            both(new Call(name, values.clone()));
            return;
        }
        for (long value : types[place] == long.class ? LONGS : INTS) {
            values[place] = value;
            cross(name, values, place + 1);
        }
    }

    private void allSeen() {
        for (int what = 0; what < 4; what++) {
            both(new Call("count", what));
            for (int k = 0; k <= 16; k++) {
                both(new Call("told", k, what));
            }
        }
    }
}
