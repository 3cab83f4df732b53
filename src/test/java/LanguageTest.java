import java.io.IOException;
import java.lang.management.ManagementFactory;
import java.lang.reflect.Constructor;
import java.lang.reflect.Field;
import java.lang.reflect.Method;
import java.lang.reflect.Modifier;
import java.nio.file.Files;
import java.nio.file.Path;
import java.util.ArrayList;
import java.util.List;
import java.util.Set;
import java.util.TreeSet;
import java.util.regex.Matcher;
import java.util.regex.Pattern;

/** The face of the class, and those rules of LANGUAGE.md that its text or a count can show. */
public final class LanguageTest {
    private static final Due DUE = new Due();
    private static final Path SOURCE = Path.of("src/main/java/MetAngles.java");
    private static final Set<String> FACE = Set.of("angle(long,long)", "drop()", "told(int,int)", "doubled(int,int,int)",
        "all(int)", "letter(int,int,int)", "address(int,int)", "cross(int,int,int,int)", "meet(int,int,int)", "pairs(int)",
        "pair(int,int,int)", "partner(int)", "held(int,int)", "holder(int,int,int,int)", "holds(int,int)",
        "between(int,int,int)", "wide(int,int)", "digit(int,int)", "put(int,int)", "take(int,int)", "sheet(int,int,int)",
        "lay(int,int,long)", "scan(int,int,int,int)", "count(int)");
    private static final Set<String> IMPORTED = Set.of("java.util.ArrayList", "java.util.List", "java.util.Arrays",
        "java.util.Iterator");
    private static final Pattern LIBRARY = Pattern.compile("(Math|Integer|Long)\\.\\w+(?<!Exact)|List\\.of|System\\.arraycopy"
        + "|Arrays\\.(copyOf|copyOfRange|fill)");
    private static final String FORBIDDEN = "\\b(throw|throws|try|catch|synchronized|assert|package|native|volatile)\\b|->|::";

    public static void main(String[] args) throws IOException {
        face();
        privateNames();
        classesInside();
        sourceText();
        room();
        DUE.end();
    }

    private static String signature(Method method) {
        StringBuilder text = new StringBuilder(method.getName()).append('(');
        for (Class<?> type : method.getParameterTypes()) {
            text.append(text.charAt(text.length() - 1) == '(' ? "" : ",").append(type.getName());
        }
        return text.append(')').toString();
    }

    private static void face() {
        Set<String> found = new TreeSet<>();
        for (Method method : MetAngles.class.getDeclaredMethods()) {
            if (!Modifier.isPrivate(method.getModifiers())) {
                found.add(signature(method));
                DUE.holds(method + " answers an int", method.getReturnType() == int.class);
            }
        }
        DUE.holds("the methods are those of the document: " + found, found.equals(FACE));
        int modifiers = MetAngles.class.getModifiers();
        DUE.holds("public and final", Modifier.isPublic(modifiers) && Modifier.isFinal(modifiers));
        Constructor<?>[] made = MetAngles.class.getDeclaredConstructors();
        DUE.is("constructors", made.length, 1);
        DUE.is("parameters of the constructor", made[0].getParameterCount(), 0);
        Set<String> constants = new TreeSet<>();
        for (Field field : MetAngles.class.getDeclaredFields()) {
            if (!Modifier.isPrivate(field.getModifiers())) {
                constants.add(field.getName());
            }
        }
        DUE.holds("constants: " + constants, constants.equals(Set.of("BAD", "STATE", "FULL", "NONE")));
        DUE.is("BAD", MetAngles.BAD, -1);
        DUE.is("STATE", MetAngles.STATE, -2);
        DUE.is("FULL", MetAngles.FULL, -3);
        DUE.is("NONE", MetAngles.NONE, -4);
    }

    private static void privateNames() {
        Set<String> open = new TreeSet<>();
        for (String method : FACE) {
            open.add(method.substring(0, method.indexOf('(')));
        }
        for (Class<?> type : allClasses()) {
            for (Method method : type.getDeclaredMethods()) {
                if (Modifier.isPrivate(method.getModifiers())) {
                    DUE.holds(method + " has a name of its own", !open.contains(method.getName()));
                }
                DUE.holds(method + " has few parameters", method.getParameterCount() <= 7);
            }
        }
    }

    private static List<Class<?>> allClasses() {
        List<Class<?>> all = new ArrayList<>(List.of(MetAngles.class.getDeclaredClasses()));
        all.add(MetAngles.class);
        return all;
    }

    private static void classesInside() {
        DUE.holds("few classes", allClasses().size() <= 12);
        for (Class<?> type : MetAngles.class.getDeclaredClasses()) {
            DUE.holds(type + " is static", Modifier.isStatic(type.getModifiers()));
            DUE.holds(type + " is not open", !Modifier.isPublic(type.getModifiers()) && !Modifier.isProtected(type.getModifiers()));
        }
        for (Class<?> type : allClasses()) {
            int fields = 0;
            for (Field field : type.getDeclaredFields()) {
                boolean isStatic = Modifier.isStatic(field.getModifiers());
                fields += isStatic ? 0 : 1;
                DUE.holds(field + " static is final", !isStatic || Modifier.isFinal(field.getModifiers()));
            }
            DUE.holds(type + " has few fields", fields <= 20);
        }
    }

    private static void sourceText() throws IOException {
        String source = Files.readString(SOURCE);
        String code = source.replaceAll("(?s)/\\*.*?\\*/", "").replaceAll("//[^\n]*", "")
            .replaceAll("\"[^\"\n]*\"", "").replaceAll("\\b(case [^>;]*|default )->", "");
        wordsOf(code);
        lengthsOf(code);
    }

    private static void wordsOf(String code) {
        Matcher word = Pattern.compile(FORBIDDEN).matcher(code);
        DUE.holds("no forbidden word" + (word.find() ? ": " + word.group() : ""), word.reset().results().count() == 0);
        Matcher imports = Pattern.compile("(?m)^\\s*import\\s+([^;]+);").matcher(code);
        DUE.holds("imports are in the rules", imports.results().allMatch(found -> IMPORTED.contains(found.group(1))));
        Set<String> own = new TreeSet<>();
        for (Class<?> type : allClasses()) {
            own.add(type.getSimpleName());
        }
        Matcher named = Pattern.compile("(?<![\\w.])([A-Z][a-z]\\w*)\\.\\w+").matcher(code.replaceAll("(?m)^\\s*import[^;]*;", ""));
        while (named.find()) {
            DUE.holds(named.group() + " is in the rules",
                own.contains(named.group(1)) || LIBRARY.matcher(named.group()).matches());
        }
    }

    private static void lengthsOf(String code) {
        int line = 0;
        int start = 0;
        for (String text : code.split("\n", -1)) {
            line++;
            if (text.matches(" {4}( {4})?\\w.*\\) \\{")) {
                start = line;
            }
            if (text.matches(" {4}( {4})?\\}")) {
                DUE.holds("short method at line " + start, line - start <= 60);
            }
        }
    }

    /** One run of 512 calls has some 7.3 million fields and elements, and most take four bytes at least. */
    private static void room() {
        long before = allocated();
        MetAngles x = new MetAngles();
        x.sheet(0, 1, 32);
        for (int i = 0; i < 32; i++) {
            x.lay(0, i, i % 2 == 0 ? i : i == 31 ? 0 : 509);
        }
        for (int call = 0; call < 128; call++) {
            x.scan(0, 1, 0, 16);
        }
        x.scan(0, 1, 0, 2);
        for (int call = 0; call < 50; call++) {
            x.partner(0);
            x.held(0, 8);
            x.meet(0, 1, 0);
            x.address(1, 300);
            x.wide(0, 20);
            x.all(20);
            x.sheet(1, 1, 60);
        }
        DUE.holds("little room is taken", allocated() - before < 4 * 7_300_000);
    }

    private static long allocated() {
        return ((com.sun.management.ThreadMXBean) ManagementFactory.getThreadMXBean()).getCurrentThreadAllocatedBytes();
    }
}
