import java.io.File;
import java.io.IOException;
import java.lang.reflect.Method;
import java.lang.reflect.Modifier;
import java.math.BigInteger;
import java.net.URL;
import java.net.URLClassLoader;
import java.nio.file.Files;
import java.nio.file.Path;
import java.util.Arrays;
import java.util.Comparator;
import java.util.List;
import java.util.stream.Stream;
import javax.tools.ToolProvider;

/** README.md says how to use the class: its example does what it says, and no call and no test is left out. */
public final class ReadmeTest {
    private static final Path README = Path.of("README.md");
    private static final Path TESTS = Path.of("src/test/java");
    private static final BigInteger SECRET =
        Reference.hex("c9afa9d845ba75166b5c215767b1d6934e50c3db36e89b127b8a622b120f6721");

    public static void main(String[] args) throws IOException, ReflectiveOperationException {
        String readme = Files.readString(README);
        exampleDoesWhatItSays(readme);
        everyCallIsNamed(readme);
        everyTestIsNamed(readme);
        Check.end();
    }

    private static void exampleDoesWhatItSays(String readme) throws IOException, ReflectiveOperationException {
        String start = "```java\n";
        int from = readme.indexOf(start);
        int end = readme.indexOf("```", from + start.length());
        Check.isTrue("there is an example", from >= 0 && end > from);
        int[] got = run(readme.substring(from + start.length(), end));
        BigInteger[] point = Reference.times(SECRET, Reference.BASE);
        byte[] agreed = Reference.bytes32(Reference.times(SECRET, point)[0]);
        int[] due = {0, 0, agreed[0] & 255};
        Check.same("key, verdict and first byte of the example", Arrays.toString(got), Arrays.toString(due));
    }

    private static int[] run(String example) throws IOException, ReflectiveOperationException {
        Path folder = Files.createTempDirectory("readme");
        try {
            String code = "public class Example { public static int[] run() {\n" + example
                + "return new int[] {key, verdict, firstByte};\n} }\n";
            Path file = Files.writeString(folder.resolve("Example.java"), code);
            String path = System.getProperty("java.class.path");
            int compiled = ToolProvider.getSystemJavaCompiler().run(
                null, null, null, "-cp", path, "-d", folder.toString(), file.toString());
            Check.same("the example compiles", compiled, 0);
            try (URLClassLoader loader = new URLClassLoader(new URL[] {folder.toUri().toURL()})) {
                return (int[]) loader.loadClass("Example").getMethod("run").invoke(null);
            }
        } finally {
            try (Stream<Path> files = Files.walk(folder)) {
                files.sorted(Comparator.reverseOrder()).map(Path::toFile).forEach(File::delete);
            }
        }
    }

    private static void everyCallIsNamed(String readme) {
        for (Method method : PrimeKeys.class.getDeclaredMethods()) {
            if (Modifier.isPublic(method.getModifiers())) {
                Check.isTrue("README.md tells " + method.getName(), readme.contains("| `" + method.getName() + "("));
            }
        }
    }

    // Those of the numbered promises are named by their first and last.
    private static void everyTestIsNamed(String readme) throws IOException {
        try (Stream<Path> files = Files.list(TESTS)) {
            List<String> names = files.map(file -> file.getFileName().toString().replace(".java", ""))
                .filter(name -> name.endsWith("Test") && !name.matches("(Promise|Edges)(0[2-9]|1[01]).*")).toList();
            for (String name : names) {
                Check.isTrue("README.md names " + name, readme.contains("`" + name + "`"));
            }
        }
        Check.isTrue("README.md says how to run them", readme.contains("    .ci/run\n"));
    }
}
