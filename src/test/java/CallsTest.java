import java.io.PrintWriter;
import java.io.StringWriter;
import java.util.ArrayList;
import java.util.HashMap;
import java.util.LinkedHashSet;
import java.util.List;
import java.util.Map;
import java.util.Set;
import java.util.regex.Matcher;
import java.util.regex.Pattern;
import java.util.spi.ToolProvider;

/** Rules 8 and 11 of LANGUAGE.md, which no single line of the class shows: who calls whom, as the compiled class tells it. */
public final class CallsTest {
    private static final Due DUE = new Due();
    private static final int DEEPEST = 8;
    private static final Pattern CLASS = Pattern.compile("^(?:[a-z]+ )*class (\\S+)(?: .*)?\\{$");
    private static final Pattern METHOD = Pattern.compile("^  (?:\\S+ )*([\\w$]+)\\(.*\\);$");
    private static final Pattern INVOKED = Pattern.compile("invoke\\w+ .*// (?:Interface)?Method (?:([\\w$/]+)\\.)?\"?([\\w<>$]+)\"?:");

    private final Map<String, Set<String>> called = new HashMap<>();
    private final Map<String, Integer> depths = new HashMap<>();

    public static void main(String[] args) {
        ToolProvider javap = ToolProvider.findFirst("javap").orElse(null);
        if (javap == null) {
            System.out.println("this Java has no javap inside: who calls whom is not looked at");
            return;
        }
        CallsTest test = new CallsTest();
        test.read(disassembled(javap));
        DUE.holds("the calls are found: " + test.called.size() + " methods", test.called.size() > 24);
        DUE.holds("take() is seen to call others", !test.called.getOrDefault("MetAngles.take", Set.of()).isEmpty());
        for (String method : test.called.keySet()) {
            DUE.holds(method + " goes at most " + DEEPEST + " deep", test.depth(method, new ArrayList<>()) <= DEEPEST);
        }
        DUE.end();
    }

    private static String disassembled(ToolProvider javap) {
        List<String> words = new ArrayList<>(List.of("-c", "-p", "-cp", System.getProperty("java.class.path"), "MetAngles"));
        for (Class<?> inside : MetAngles.class.getDeclaredClasses()) {
            words.add(inside.getName());
        }
        StringWriter text = new StringWriter();
        PrintWriter to = new PrintWriter(text);
        javap.run(to, to, words.toArray(new String[0]));
        to.flush();
        return text.toString();
    }

    private void read(String text) {
        String type = "";
        String method = "";
        for (String line : text.split("\\R")) {
            Matcher typed = CLASS.matcher(line);
            Matcher named = METHOD.matcher(line);
            Matcher invoked = INVOKED.matcher(line);
            if (typed.matches()) {
                type = typed.group(1);
            } else if (named.matches()) {
                method = type + "." + (named.group(1).equals(type) ? "<init>" : named.group(1));
                called.putIfAbsent(method, new LinkedHashSet<>());
            } else if (invoked.find() && (invoked.group(1) == null || !invoked.group(1).startsWith("java/"))) {
                called.get(method).add((invoked.group(1) == null ? type : invoked.group(1)) + "." + invoked.group(2));
            }
        }
    }

    /** How many calls stand open at once, the method's own being the first; one that comes back to itself is too deep. */
    private int depth(String method, List<String> open) {
        if (open.contains(method)) {
            DUE.holds(open + " comes back to " + method, false);
            return DEEPEST + 1;
        }
        Integer known = depths.get(method);
        if (known != null) {
            return known;
        }
        open.add(method);
        int deepest = 0;
        for (String next : called.getOrDefault(method, Set.of())) {
            deepest = Math.max(deepest, depth(next, open));
        }
        open.remove(method);
        depths.put(method, deepest + 1);
        return deepest + 1;
    }
}
