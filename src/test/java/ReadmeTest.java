import java.io.IOException;
import java.lang.reflect.Method;
import java.lang.reflect.Modifier;
import java.net.URL;
import java.net.URLClassLoader;
import java.nio.file.Files;
import java.nio.file.Path;
import java.util.regex.Matcher;
import java.util.regex.Pattern;
import javax.tools.JavaCompiler;
import javax.tools.ToolProvider;

/** README.md keeps its word: its example is compiled and run, and every call of the face stands in it. */
public final class ReadmeTest {
    private static final Pattern EXAMPLE = Pattern.compile("(?s)```java\n(.*?)```");
    /** A call on a line of its own, and the answer that the remark behind it tells. */
    private static final Pattern TOLD = Pattern.compile("(?m)^(x\\.\\w+\\([^;]*\\)); +// (-?\\d+|[A-Z]+)\\b.*$");
    private static final int CALLS_OF_AN_OBJECT = 512;

    private static final Check check = new Check();

    public static void main(String[] args) throws IOException, ReflectiveOperationException {
        String readme = Files.readString(Path.of(System.getProperty("rungrights.readme", "README.md")));
        Matcher example = EXAMPLE.matcher(readme);
        check.holds("there is an example", example.find());
        String code = example.group(1);
        check.holds("each call tells its answer", callsOnTheirOwn(code) == TOLD.matcher(code).results().count());
        check.holds("an object is not used up", code.lines().count() + 60 < CALLS_OF_AN_OBJECT);
        dueAllCalls(code, readme);
        runExample(code);
        check.holds("how to run the tests", readme.contains("\n    .ci/run\n"));
        check.end();
    }

    private static long callsOnTheirOwn(String code) {
        return code.lines().filter(line -> line.startsWith("x.")).count();
    }

    private static void dueAllCalls(String code, String readme) {
        for (Method method : RungRights.class.getDeclaredMethods()) {
            if (Modifier.isPublic(method.getModifiers())) {
                String name = method.getName();
                check.holds(name + " is in the example", code.contains("x." + name + "("));
                check.holds(name + " is told of", Pattern.compile("(?m)^\\| .*`" + name + "\\(").matcher(readme).find());
            }
        }
    }

    /** Each answer goes to a row, beside the one that README.md tells, so that the rows can be compared here. */
    private static void runExample(String code) throws IOException, ReflectiveOperationException {
        String calls = TOLD.matcher(code).replaceAll(told -> Matcher.quoteReplacement(
            "rows.add(new Object[] {\"" + told.group(1) + "\", (long) " + told.group(1) + ", (long) "
            + (Character.isLetter(told.group(2).charAt(0)) ? "RungRights." : "") + told.group(2) + "});"));
        String source = "public final class ReadmeExample {\n"
            + "public static java.util.List<Object[]> run() {\n"
            + "java.util.List<Object[]> rows = new java.util.ArrayList<>();\n" + calls + "return rows;\n}\n}\n";
        Path made = Files.createTempDirectory("readme");
        Path file = made.resolve("ReadmeExample.java");
        Path compiled = made.resolve("ReadmeExample.class");
        try {
            Files.writeString(file, source);
            if (compiles(file)) {
                compareRows(made);
            }
        } finally {
            Files.deleteIfExists(file);
            Files.deleteIfExists(compiled);
            Files.deleteIfExists(made);
        }
    }

    private static boolean compiles(Path file) {
        JavaCompiler compiler = ToolProvider.getSystemJavaCompiler();
        boolean so = compiler != null && compiler.run(null, null, null, "-proc:none",
            "-cp", System.getProperty("java.class.path"), file.toString()) == 0;
        check.holds("the example compiles", so);
        return so;
    }

    private static void compareRows(Path made) throws IOException, ReflectiveOperationException {
        try (URLClassLoader loader = new URLClassLoader(new URL[] {made.toUri().toURL()})) {
            Object rows = loader.loadClass("ReadmeExample").getMethod("run").invoke(null);
            for (Object row : (Iterable<?>) rows) {
                Object[] told = (Object[]) row;
                check.due("README.md: " + told[0], (Long) told[1], (Long) told[2]);
            }
        }
    }
}
