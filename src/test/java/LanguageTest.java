import java.io.IOException;
import java.nio.file.Files;
import java.nio.file.Path;
import java.util.Set;
import java.util.regex.Matcher;
import java.util.regex.Pattern;

/** Those rules of LANGUAGE.md that can be read off the source, and the room that calls take. */
public final class LanguageTest {
    private static final int LONGEST_METHOD = 60;
    private static final int MOST_PARAMETERS = 7;
    private static final Set<String> LIBRARY = Set.of("Arrays.fill", "Math.min", "Math.max", "Math.abs",
        "Integer.bitCount", "System.arraycopy");

    private static final Check check = new Check();

    public static void main(String[] args) throws IOException {
        String source = Files.readString(Path.of(System.getProperty("rungrights.source", "src/main/java/RungRights.java")));
        String code = source.replaceAll("(?s)/\\*.*?\\*/", "").replaceAll("//[^\n]*", "");
        barredWords(code);
        libraryCalls(code);
        methodSizes(source);
        callsMakeNothing();
        check.end();
    }

    /** No promise asks for an exception, so that none is thrown and none is caught. */
    private static void barredWords(String code) {
        String[] barred = {"throw", "throws", "try", "catch", "finally", "synchronized", "assert", "package", "var",
            "hashCode", "toString", "getClass", "Object", "volatile", "native", "protected"};
        for (String word : barred) {
            check.holds("no " + word, !Pattern.compile("\\b" + word + "\\b").matcher(code).find());
        }
        check.holds("no lambda", !code.contains("->"));
        check.holds("no method reference", !code.contains("::"));
        check.holds("no static block", !Pattern.compile("\\bstatic\\s*\\{").matcher(code).find());
        Matcher imports = Pattern.compile("import ([^;]+);").matcher(code);
        while (imports.find()) {
            check.holds("import " + imports.group(1), imports.group(1).equals("java.util.Arrays"));
        }
        for (int i = 0; i < code.length(); i++) {
            check.holds("a sign of 1 to 127 at " + i, code.charAt(i) >= 1 && code.charAt(i) <= 127);
        }
    }

    private static void libraryCalls(String code) {
        Matcher calls = Pattern.compile("\\b(Arrays|Math|Integer|Long|System|String|StringBuilder|List)\\.(\\w+)").matcher(code);
        while (calls.find()) {
            check.holds(calls.group() + " is on the list", LIBRARY.contains(calls.group()));
        }
    }

    private static void methodSizes(String source) {
        Pattern head = Pattern.compile("^( {4}| {8})[a-z][\\w\\[\\] ]*\\b(\\w+)\\(([^)]*)\\) \\{$");
        String[] lines = source.split("\n");
        int heads = 0;
        for (int i = 0; i < lines.length; i++) {
            Matcher matcher = head.matcher(lines[i]);
            if (!matcher.matches() || lines[i].trim().startsWith("if")) {
                continue;
            }
            heads++;
            int end = i;
            while (!lines[end].equals(matcher.group(1) + "}")) {
                end++;
            }
            check.holds(matcher.group(2) + " is short", end - i + 1 <= LONGEST_METHOD);
            check.holds(matcher.group(2) + " takes few", matcher.group(3).split(",").length <= MOST_PARAMETERS);
        }
        check.holds("methods were found", heads > 60);
    }

    /** All calls of all runs share one room, so a call that made objects could fill it. */
    private static void callsMakeNothing() {
        com.sun.management.ThreadMXBean bean =
            (com.sun.management.ThreadMXBean) java.lang.management.ManagementFactory.getThreadMXBean();
        if (!bean.isThreadAllocatedMemorySupported()) {
            return;
        }
        bean.setThreadAllocatedMemoryEnabled(true);
        long id = Thread.currentThread().getId();
        RungRights x = new RungRights();
        long sum = manyCalls(x);
        bean.getThreadAllocatedBytes(id);
        long before = bean.getThreadAllocatedBytes(id);
        for (int i = 0; i < 100; i++) {
            sum += manyCalls(x);
        }
        long made = bean.getThreadAllocatedBytes(id) - before;
        check.holds("calls make nothing, but they made " + made + " bytes (" + sum + ")", made < 10000);
    }

    private static long manyCalls(RungRights x) {
        long sum = x.rung(3, 1, -1, 0) + x.man(0, 3, 5, 0) + x.say('A') + x.say('a') + x.fault() + x.judge(0);
        sum += x.behind(0, 2) + x.bears(1, 2) + x.then(4) + x.done() + x.say('.') + x.done() + x.wipe();
        sum += x.climb(1, 1) + x.ways(1) + x.leases(2, 1) + x.stand(3) + x.felt(2, true) + x.ups(3) + x.ask(0);
        sum += x.forget() + x.down(1365, 1) + x.foot(4, 12, 1, 0) + x.year(77, 99, 1) + x.image(0) + x.restore(0);
        return sum + x.image(1) + x.restore(1) + x.told(43);
    }
}
