import java.io.PrintWriter;
import java.io.StringWriter;
import java.net.URISyntaxException;
import java.nio.file.Path;
import java.util.ArrayList;
import java.util.HashMap;
import java.util.HashSet;
import java.util.List;
import java.util.Map;
import java.util.Set;
import java.util.TreeMap;
import java.util.TreeSet;
import java.util.regex.Matcher;
import java.util.regex.Pattern;
import java.util.spi.ToolProvider;

/**
 * The rules of LANGUAGE.md that are seen in what the compiler made of the program: what calls what, how deep,
 * and where something is made or thrown.
 */
public final class LanguageCallsTest {
    private static final int DEEPEST = 8;
    private static final Pattern METHOD = Pattern.compile("  (?:[\\w.\\[\\]$]+ )*([\\w.$]+)\\(.*\\)(?: throws .*)?;");
    private static final Pattern DESCRIPTOR = Pattern.compile("    descriptor: (\\S+)");
    private static final Pattern CODE = Pattern.compile(" +\\d+: ([a-z]\\w*).*");
    private static final Pattern CALLED = Pattern.compile(".* // (?:Interface)?Method (\\S+)");
    private static final Set<String> LIBRARY = Set.of(
        "java/lang/Object.<init>", "java/lang/System.arraycopy", "java/util/Arrays.copyOf", "java/util/Arrays.fill",
        "java/lang/IllegalStateException.<init>", "java/lang/IllegalArgumentException.<init>",
        "java/lang/IndexOutOfBoundsException.<init>", "java/util/NoSuchElementException.<init>"
    );

    // A method is told as Class.name:descriptor.
    private final Map<String, Set<String>> calls = new TreeMap<>();
    private final Map<String, Set<String>> codes = new TreeMap<>();
    private final Map<String, Integer> depths = new HashMap<>();

    public static void main(String[] args) throws URISyntaxException {
        LanguageCallsTest test = new LanguageCallsTest();
        List<Class<?>> classes = new ArrayList<>(List.of(PrimeKeys.class));
        classes.addAll(List.of(PrimeKeys.class.getDeclaredClasses()));
        for (Class<?> type : classes) {
            test.read(type.getName());
        }
        test.everyCallIsAllowed();
        test.noCallComesToItself();
        test.callsGoEightDeep();
        test.onlyTheFaceThrows();
        test.noForbiddenCodes();
        test.objectsAreMadeByConstructors();
        Check.end();
    }

    private void read(String type) throws URISyntaxException {
        Path folder = Path.of(PrimeKeys.class.getProtectionDomain().getCodeSource().getLocation().toURI());
        StringWriter text = new StringWriter();
        PrintWriter out = new PrintWriter(text);
        ToolProvider javap = ToolProvider.findFirst("javap").orElseThrow();
        Check.same("javap of " + type, javap.run(out, out, "-p", "-s", "-c", folder.resolve(type + ".class").toString()), 0);
        String name = null;
        String method = null;
        for (String line : text.toString().split("\n")) {
            Matcher head = METHOD.matcher(line);
            Matcher descriptor = DESCRIPTOR.matcher(line);
            Matcher code = CODE.matcher(line);
            if (head.matches()) {
                name = head.group(1).equals(type) ? "<init>" : head.group(1);
            } else if (line.equals("  static {};")) {
                name = "<clinit>";
            } else if (descriptor.matches() && name != null) {
                method = type + "." + name + ":" + descriptor.group(1);
                calls.put(method, new TreeSet<>());
                codes.put(method, new TreeSet<>());
                name = null;
            } else if (code.matches()) {
                codes.get(method).add(code.group(1));
                readCall(type, method, line);
            }
        }
    }

    private void readCall(String type, String method, String line) {
        Matcher called = CALLED.matcher(line);
        if (called.matches()) {
            String other = called.group(1).replace("\"", "");
            calls.get(method).add(nameOf(other).contains(".") ? other : type + "." + other);
        }
    }

    private static String nameOf(String method) {
        return method.substring(0, method.indexOf(':'));
    }

    private static boolean isFace(String method) {
        return method.matches("PrimeKeys\\.(feed|end|key|open|agree|message|sign|verify|back|result|count):.*");
    }

    private void everyCallIsAllowed() {
        Check.isTrue("methods were read", calls.size() > 60);
        for (Map.Entry<String, Set<String>> entry : calls.entrySet()) {
            for (String other : entry.getValue()) {
                boolean known = calls.containsKey(other) || LIBRARY.contains(nameOf(other));
                Check.isTrue(entry.getKey() + " may call " + other, known);
            }
        }
    }

    private void noCallComesToItself() {
        for (String method : calls.keySet()) {
            Set<String> reached = new HashSet<>();
            List<String> open = new ArrayList<>(calls.get(method));
            while (!open.isEmpty()) {
                String next = open.remove(open.size() - 1);
                if (reached.add(next)) {
                    open.addAll(calls.getOrDefault(next, Set.of()));
                }
            }
            Check.isTrue(method + " does not come to itself", !reached.contains(method));
        }
    }

    // The call from outside counts as the first, and those of the library count too.
    private void callsGoEightDeep() {
        for (String method : calls.keySet()) {
            int depth = depth(method, 1);
            Check.isTrue(method + " goes " + depth + " deep", depth <= DEEPEST);
        }
    }

    private int depth(String method, int open) {
        if (open > calls.size()) {
            return open;
        }
        Integer known = depths.get(method);
        if (known != null) {
            return known;
        }
        int deepest = 0;
        for (String other : calls.getOrDefault(method, Set.of())) {
            deepest = Math.max(deepest, depth(other, open + 1));
        }
        depths.put(method, deepest + 1);
        return deepest + 1;
    }

    private void onlyTheFaceThrows() {
        for (String method : codes.keySet()) {
            Check.isTrue(method + " throws nothing", isFace(method) || !codes.get(method).contains("athrow"));
        }
    }

    // invokedynamic is a lambda or texts joined by +, monitorenter is synchronized, frem and drem are no + - * /.
    private void noForbiddenCodes() {
        for (String method : codes.keySet()) {
            for (String code : new String[] {"invokedynamic", "monitorenter", "frem", "drem"}) {
                Check.isTrue(method + " has no " + code, !codes.get(method).contains(code));
            }
        }
    }

    // But for exceptions, and for a row that is read from constants while a constructor runs.
    private void objectsAreMadeByConstructors() {
        for (String method : codes.keySet()) {
            String name = nameOf(method);
            boolean may = name.endsWith("init>") || name.equals("PrimeKeys$Limbs.readWords");
            Set<String> used = codes.get(method);
            boolean makesRow = used.contains("newarray") || used.contains("anewarray") || used.contains("multianewarray");
            Check.isTrue(method + " makes no row", may || !makesRow);
            boolean makesObject = used.contains("new") && !used.contains("athrow");
            Check.isTrue(method + " makes no object", may || !makesObject);
        }
    }
}
