import java.io.IOException;
import java.nio.file.Files;
import java.nio.file.Path;
import java.util.ArrayList;
import java.util.HashMap;
import java.util.List;
import java.util.Map;
import java.util.regex.Matcher;
import java.util.regex.Pattern;
import java.util.stream.Stream;

/** README.md: its examples answer as they say, and it names every call, every answer and every test. */
public final class ReadmeTest {
    private static final Due DUE = new Due();
    private static final Path README = Path.of("README.md");
    private static final Path TESTS = Path.of("src/test/java");
    private static final Pattern EXAMPLE = Pattern.compile("(?:int (\\w+) = )?x\\.(\\w+)\\((.*?)\\);\\s*// (-?\\d+).*");

    public static void main(String[] args) throws IOException {
        List<String> lines = Files.readAllLines(README);
        javaExamples(inside(lines, "java"));
        runExamples(Run.of("README.md", inside(lines, "text")));
        namesAll(String.join("\n", lines));
        DUE.end();
    }

    /** The lines of all blocks of a kind; all others are empty, so that each keeps its number. */
    private static List<String> inside(List<String> lines, String kind) {
        List<String> found = new ArrayList<>();
        boolean isInside = false;
        for (String line : lines) {
            boolean isFence = line.startsWith("```");
            found.add(isInside && !isFence ? line : "");
            isInside = isFence ? line.equals("```" + kind) : isInside;
        }
        return found;
    }

    private static void javaExamples(List<String> lines) {
        MetAngles x = null;
        Map<String, Long> named = new HashMap<>();
        int calls = 0;
        for (String line : lines) {
            if (line.equals("MetAngles x = new MetAngles();")) {
                x = new MetAngles();
                named.clear();
                continue;
            }
            Matcher example = EXAMPLE.matcher(line);
            DUE.holds("an example in README.md: " + line, line.isBlank() || x != null && example.matches());
            if (x != null && example.matches()) {
                calls++;
                long got = new Call(example.group(2), values(example.group(3), named)).on(x);
                DUE.is("README.md: " + line, got, Long.parseLong(example.group(4)));
                if (example.group(1) != null) {
                    named.put(example.group(1), got);
                }
            }
        }
        DUE.holds("README.md has examples", calls > 0);
    }

    private static long[] values(String text, Map<String, Long> named) {
        return Stream.of(text.split(",")).map(String::strip).filter(part -> !part.isEmpty())
            .mapToLong(part -> named.containsKey(part) ? named.get(part) : Long.parseLong(part)).toArray();
    }

    private static void runExamples(List<Run> runs) {
        DUE.holds("README.md has a run", !runs.isEmpty());
        for (Run run : runs) {
            MetAngles x = new MetAngles();
            for (Run.Step step : run.steps()) {
                DUE.is(step.place() + " " + step.call(), step.call().on(x), step.due());
            }
        }
    }

    private static void namesAll(String text) throws IOException {
        for (String name : Call.names()) {
            DUE.holds("README.md tells of " + name, text.contains("`" + name + "("));
        }
        for (String answer : List.of("BAD", "STATE", "FULL", "NONE")) {
            DUE.holds("README.md tells of " + answer, text.contains("`" + answer + "`"));
        }
        try (Stream<Path> tests = Files.list(TESTS)) {
            for (Path test : tests.sorted().toList()) {
                String name = test.getFileName().toString().replace(".java", "");
                DUE.holds("README.md tells of " + name, text.contains("`" + name + "`"));
            }
        }
    }
}
