import java.io.IOException;
import java.nio.file.Files;
import java.nio.file.Path;
import java.util.ArrayList;
import java.util.Collections;
import java.util.List;
import java.util.Map;
import java.util.regex.Matcher;
import java.util.regex.Pattern;

/**
 * Calls on one new object, each with the answer that is due, as a text tells them. A line "== words" begins a run, the
 * words being those of the document that it looks at; "#" begins a remark; a call is "told(0, 1) = 3",
 * "angle(1, 5) = 2 .. 15" (again and again, the answers counting up), or "300 * count(0) = 0" (so often).
 */
record Run(String title, List<Step> steps) {
    record Step(String place, Call call, long due) {
        boolean isRefused() {
            return due < 0;
        }
    }

    private static final Pattern LINE = Pattern.compile("(?:(\\d+) \\* )?(\\w+)\\((.*)\\) = (\\S+)(?: \\.\\. (\\S+))?");
    private static final Map<String, Long> NAMES = Map.ofEntries(Map.entry("BAD", -1L), Map.entry("STATE", -2L),
        Map.entry("FULL", -3L), Map.entry("NONE", -4L), Map.entry("NULL", -11L), Map.entry("INDEX", -12L),
        Map.entry("CAST", -13L), Map.entry("SIZE", -14L), Map.entry("SCAN_BAD", -21L), Map.entry("SCAN_FULL", -23L),
        Map.entry("LEAST", (long) Integer.MIN_VALUE), Map.entry("MOST", (long) Integer.MAX_VALUE),
        Map.entry("LONG_LEAST", Long.MIN_VALUE), Map.entry("LONG_MOST", Long.MAX_VALUE));

    static List<Run> in(Path file) throws IOException {
        return of(file.getFileName().toString(), Files.readAllLines(file));
    }

    static List<Run> of(String name, List<String> lines) {
        List<Run> runs = new ArrayList<>();
        for (int i = 0; i < lines.size(); i++) {
            String line = lines.get(i).strip();
            String place = name + ":" + (i + 1);
            if (line.startsWith("== ")) {
                runs.add(new Run(line.substring(3), new ArrayList<>()));
            } else if (!line.isEmpty() && !line.startsWith("#")) {
                runs.get(runs.size() - 1).steps.addAll(steps(place, line));
            }
        }
        return runs;
    }

    private static List<Step> steps(String place, String line) {
        Matcher parts = LINE.matcher(line);
        if (!parts.matches()) {
            throw new IllegalStateException(place + " is no call: " + line);
        }
        Call call = new Call(parts.group(2), numbers(parts.group(3)));
        if (call.values().length != Call.types(call.name()).length) {
            throw new IllegalStateException(place + " has not as many numbers as the call takes: " + line);
        }
        long due = number(parts.group(4));
        if (parts.group(1) != null) {
            return Collections.nCopies(Integer.parseInt(parts.group(1)), new Step(place, call, due));
        }
        long last = parts.group(5) == null ? due : number(parts.group(5));
        List<Step> steps = new ArrayList<>();
        for (long next = due; next <= last; next++) {
            steps.add(new Step(place, call, next));
        }
        return steps;
    }

    private static long[] numbers(String text) {
        if (text.isBlank()) {
            return new long[0];
        }
        String[] parts = text.split(",");
        long[] numbers = new long[parts.length];
        for (int i = 0; i < parts.length; i++) {
            numbers[i] = number(parts[i].strip());
        }
        return numbers;
    }

    private static long number(String text) {
        Long named = NAMES.get(text);
        return named != null ? named : Long.parseLong(text);
    }
}
