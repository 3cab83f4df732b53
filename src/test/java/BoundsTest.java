import java.io.IOException;
import java.nio.file.Files;
import java.nio.file.Path;
import java.util.ArrayList;
import java.util.List;
import java.util.stream.Stream;

/** The runs under src/test/runs: each sentence of the document that names a boundary case; and that refused calls change nothing. */
public final class BoundsTest {
    private static final Due DUE = new Due();
    private static final Path RUNS = Path.of("src/test/runs");
    /** What later calls of an object answer is free. */
    private static final int MOST_CALLS = 512;
    private static final int SHEETS = 4;

    public static void main(String[] args) throws IOException {
        try (Stream<Path> files = Files.list(RUNS)) {
            for (Path file : files.sorted().toList()) {
                for (Run run : Run.in(file)) {
                    answersAsDue(run);
                    refusedChangesNothing(run);
                }
            }
        }
        DUE.end();
    }

    private static void answersAsDue(Run run) {
        MetAngles real = new MetAngles();
        Model model = new Model();
        DUE.holds(run.title() + " has calls", !run.steps().isEmpty());
        DUE.holds(run.title() + " has not too many calls", run.steps().size() <= MOST_CALLS);
        for (Run.Step step : run.steps()) {
            DUE.is(step.place() + " (" + run.title() + ") " + step.call(), step.call().on(real), step.due());
            DUE.is(step.place() + " the model: " + step.call(), step.call().on(model), step.due());
        }
    }

    /** For each refused call: an object that met it shows the same as one that did not. */
    private static void refusedChangesNothing(Run run) {
        List<Call> before = new ArrayList<>();
        for (Run.Step step : run.steps()) {
            if (!step.isRefused()) {
                before.add(step.call());
                continue;
            }
            List<Call> with = new ArrayList<>(before);
            with.add(step.call());
            for (int part = 0; part <= SHEETS; part++) {
                List<Long> due = part == SHEETS ? anglesSeen(before) : sheetSeen(before, part);
                List<Long> seen = part == SHEETS ? anglesSeen(with) : sheetSeen(with, part);
                DUE.holds(step.place() + " " + step.call() + " changes nothing: " + seen + " for " + due, seen.equals(due));
            }
        }
    }

    private static MetAngles after(List<Call> calls) {
        MetAngles x = new MetAngles();
        for (Call call : calls) {
            call.on(x);
        }
        return x;
    }

    private static List<Long> anglesSeen(List<Call> calls) {
        MetAngles x = after(calls);
        List<Long> seen = new ArrayList<>();
        for (int what = 0; what < 3; what++) {
            seen.add((long) x.count(what));
        }
        for (int k = 0; k <= seen.get(0); k++) {
            for (int what = 0; what < 4; what++) {
                seen.add((long) x.told(k, what));
            }
        }
        // Dropping the latest one shows that the one ahead of it is numbered as before.
        seen.add((long) x.drop());
        seen.add((long) x.angle(3, 31));
        return seen;
    }

    /** CELLS show themselves only by the ANGLES that they make, so all ANGLES go first. */
    private static List<Long> sheetSeen(List<Call> calls, int sheet) {
        MetAngles x = after(calls);
        int asked = calls.size();
        List<Long> seen = new ArrayList<>();
        for (int k = 0; k < 16; k++) {
            asked++;
            x.drop();
        }
        for (int lane = 0; lane < 2; lane++) {
            for (int f = 0; f == 0 || seen.get(seen.size() - 1) != -12 && f <= 60; f++) {
                asked += 4;
                int answer = x.scan(sheet, lane, f, 1);
                seen.add((long) x.told(0, 0));
                seen.add((long) x.told(0, 1));
                x.drop();
                seen.add((long) answer);
                if (answer == -11 || answer == -13) {
                    break;
                }
            }
        }
        DUE.holds("not too many calls: " + asked, asked <= MOST_CALLS);
        return seen;
    }
}
