import java.io.IOException;
import java.nio.file.Files;
import java.nio.file.Path;
import java.util.Map;
import java.util.Set;
import java.util.TreeMap;
import java.util.regex.Matcher;
import java.util.regex.Pattern;

/** Those rules of LANGUAGE.md that can be read off the source, and the room that calls take. */
public final class LanguageTest {
    private static final int LONGEST_METHOD = 60;
    private static final int MOST_PARAMETERS = 7;
    private static final int DEEPEST_CALLS = 8;
    private static final int OBJECTS_MEASURED = 1000;
    private static final int MOST_BYTES_OF_AN_OBJECT = 4000;
    private static final Set<String> LIBRARY = Set.of("Arrays.fill", "Math.min", "Math.max", "Math.abs",
        "Integer.bitCount", "System.arraycopy");

    private static final Check check = new Check();

    public static void main(String[] args) throws IOException {
        String source = Files.readString(Path.of(System.getProperty("rungrights.source", "src/main/java/RungRights.java")));
        String code = source.replaceAll("(?s)/\\*.*?\\*/", "").replaceAll("//[^\n]*", "");
        barredWords(code);
        libraryCalls(code);
        methodSizes(source);
        callsGoFewDeep(source);
        callsMakeNothing();
        objectsAreSmall();
        check.end();
    }

    /** No promise asks for an exception, so that none is thrown and none is caught. */
    private static void barredWords(String code) {
        String[] barred = {"throw", "throws", "try", "catch", "finally", "synchronized", "assert", "package", "var",
            "hashCode", "toString", "getClass", "Object", "volatile", "native", "protected"};
        for (String word : barred) {
            check.holds("no " + word, !Pattern.compile("\\b" + word + "\\b").matcher(code).find());
        }
        check.holds("no lambda", !code.contains("->"));
        check.holds("no method reference", !code.contains("::"));
        check.holds("no static block", !Pattern.compile("\\bstatic\\s*\\{").matcher(code).find());
        Matcher imports = Pattern.compile("import ([^;]+);").matcher(code);
        while (imports.find()) {
            check.holds("import " + imports.group(1), imports.group(1).equals("java.util.Arrays"));
        }
        for (int i = 0; i < code.length(); i++) {
            check.holds("a sign of 1 to 127 at " + i, code.charAt(i) >= 1 && code.charAt(i) <= 127);
        }
    }

    private static void libraryCalls(String code) {
        Matcher calls = Pattern.compile("\\b(Arrays|Math|Integer|Long|System|String|StringBuilder|List)\\.(\\w+)").matcher(code);
        while (calls.find()) {
            check.holds(calls.group() + " is on the list", LIBRARY.contains(calls.group()));
        }
    }

    /** A method's head with its name (2) and parameters (3), and its body (4). */
    private static Matcher methodsIn(String source) {
        return Pattern.compile("(?ms)^( {4}| {8})(?!if)[a-z][\\w\\[\\] ]*\\b(\\w+)\\(([^)\\n]*)\\) \\{\\n(.*?)^\\1\\}$").matcher(source);
    }

    private static void methodSizes(String source) {
        Matcher methods = methodsIn(source);
        int found = 0;
        while (methods.find()) {
            found++;
            check.holds(methods.group(2) + " is short", methods.group().lines().count() <= LONGEST_METHOD);
            check.holds(methods.group(2) + " takes few", methods.group(3).split(",").length <= MOST_PARAMETERS);
        }
        check.holds("methods were found", found > 100);
    }

    /** Methods of one name are taken for one: that can only make the row of calls seem deeper than it is. */
    private static void callsGoFewDeep(String source) {
        Map<String, String> bodies = new TreeMap<>();
        Matcher methods = methodsIn(source);
        while (methods.find()) {
            bodies.merge(methods.group(2), methods.group(4), String::concat);
        }
        for (String name : bodies.keySet()) {
            int deep = callsDeep(name, bodies, 0);
            check.holds(name + " goes " + deep + " calls deep", deep <= DEEPEST_CALLS);
        }
    }

    private static int callsDeep(String name, Map<String, String> bodies, int above) {
        int deepest = 0;
        Matcher called = Pattern.compile("\\b(\\w+)\\(").matcher(bodies.get(name));
        while (called.find() && above <= DEEPEST_CALLS) {
            if (bodies.containsKey(called.group(1))) {
                deepest = Math.max(deepest, callsDeep(called.group(1), bodies, above + 1));
            }
        }
        return 1 + deepest;
    }

    /** All calls of all runs share one room, so a call that made objects could fill it. */
    private static void callsMakeNothing() {
        com.sun.management.ThreadMXBean bean =
            (com.sun.management.ThreadMXBean) java.lang.management.ManagementFactory.getThreadMXBean();
        if (!bean.isThreadAllocatedMemorySupported()) {
            return;
        }
        bean.setThreadAllocatedMemoryEnabled(true);
        long id = Thread.currentThread().getId();
        RungRights x = new RungRights();
        long sum = manyCalls(x);
        bean.getThreadAllocatedBytes(id);
        long before = bean.getThreadAllocatedBytes(id);
        for (int i = 0; i < 100; i++) {
            sum += manyCalls(x);
        }
        long made = bean.getThreadAllocatedBytes(id) - before;
        check.holds("calls make nothing, but they made " + made + " bytes (" + sum + ")", made < 10000);
    }

    /** An object with all that its calls ever make, both images: in bytes more than it has of fields and elements. */
    private static void objectsAreSmall() {
        com.sun.management.ThreadMXBean bean =
            (com.sun.management.ThreadMXBean) java.lang.management.ManagementFactory.getThreadMXBean();
        if (!bean.isThreadAllocatedMemorySupported()) {
            return;
        }
        long id = Thread.currentThread().getId();
        long before = bean.getThreadAllocatedBytes(id);
        long sum = 0;
        for (int i = 0; i < OBJECTS_MEASURED; i++) {
            sum += manyCalls(new RungRights());
        }
        long each = (bean.getThreadAllocatedBytes(id) - before) / OBJECTS_MEASURED;
        check.holds("an object takes " + each + " bytes in all (" + sum + ")", each <= MOST_BYTES_OF_AN_OBJECT);
    }

    private static long manyCalls(RungRights x) {
        long sum = x.rung(3, 1, -1, 0) + x.man(0, 3, 5, 0) + x.say('A') + x.say('a') + x.fault() + x.judge(0);
        sum += x.behind(0, 2) + x.bears(1, 2) + x.then(4) + x.done() + x.say('.') + x.done() + x.wipe();
        sum += x.climb(1, 1) + x.ways(1) + x.leases(2, 1) + x.stand(3) + x.felt(2, true) + x.ups(3) + x.ask(0);
        sum += x.forget() + x.down(1365, 1) + x.foot(4, 12, 1, 0) + x.year(77, 99, 1) + x.image(0) + x.restore(0);
        return sum + x.image(1) + x.restore(1) + x.told(43);
    }
}
