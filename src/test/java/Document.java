import java.io.IOException;
import java.nio.file.Files;
import java.nio.file.Path;
import java.util.ArrayList;
import java.util.BitSet;
import java.util.List;
import java.util.regex.Matcher;
import java.util.regex.Pattern;

/**
 * The document's own words: tests quote them, so that a quote which no longer stands there is told, and so is
 * every word that no test quotes. Where the document can not be read, nothing is asked of the quotes.
 */
final class Document {
    static final int PROMISES = 25;
    private static final int TERMS = 0;

    private final String[] parts = new String[PROMISES + 1];
    private final BitSet[] quoted = new BitSet[PROMISES + 1];
    private final boolean isThere;

    Document(Path path) {
        String text = "";
        try {
            text = Files.readString(path);
        } catch (IOException e) {
            System.out.println("no " + path + ": quotes are not looked up");
        }
        isThere = !text.isEmpty();
        String terms = between(text, "## Terms", "## Promise 1:");
        parts[TERMS] = plain(callsOfAnObject(text) + " " + constants(text) + " " + terms);
        for (int promise = 1; promise <= PROMISES; promise++) {
            String end = promise == PROMISES ? "## Not promised" : "## Promise " + (promise + 1) + ":";
            parts[promise] = plain(between(text, "## Promise " + promise + ":", end).replaceFirst("(?s)^.*?`:", ""));
        }
        for (int i = 0; i <= PROMISES; i++) {
            quoted[i] = new BitSet();
        }
    }

    private static String callsOfAnObject(String text) {
        return between(text, "\nAn object is used", "## The public face").isEmpty()
            ? "" : "An object is used" + between(text, "\nAn object is used", "## The public face");
    }

    private static String constants(String text) {
        StringBuilder all = new StringBuilder();
        Matcher matcher = Pattern.compile("public static final \\w+ ([^;]+);").matcher(text);
        while (matcher.find()) {
            all.append(matcher.group(1)).append("; ");
        }
        return all.toString();
    }

    private static String between(String text, String begin, String end) {
        int from = text.indexOf(begin);
        int to = from < 0 ? -1 : text.indexOf(end, from + begin.length());
        return to < 0 ? "" : text.substring(from + begin.length(), to);
    }

    /** Without what is no sentence: fences, the numbers of the parts, and what stands ahead of which calls. */
    private static String plain(String text) {
        String sentences = text.replaceAll("(?m)^```.*$", "").replaceAll("(?m)^=+ \\d+ ", "")
            .replaceAll("(?m)^Ahead of the calls.*$", "");
        return sentences.replaceAll("\\s+", " ").trim();
    }

    /** Whether the words stand in that promise, or in the terms; they are quoted then. */
    boolean quote(int promise, String words) {
        return !isThere || quoteIn(promise, words) || quoteIn(TERMS, words);
    }

    private boolean quoteIn(int part, String words) {
        int at = parts[part].indexOf(words);
        boolean found = at >= 0;
        while (at >= 0) {
            quoted[part].set(at, at + words.length());
            at = parts[part].indexOf(words, at + 1);
        }
        return found;
    }

    /** What no test quotes, each with where it stands. */
    List<String> unquoted() {
        List<String> all = new ArrayList<>();
        for (int part = 0; part <= PROMISES && isThere; part++) {
            if (parts[part].isEmpty()) {
                all.add("part " + part + " was not found");
            }
            int from = quoted[part].nextClearBit(0);
            while (from < parts[part].length()) {
                int next = quoted[part].nextSetBit(from);
                int to = next < 0 ? parts[part].length() : next;
                String words = parts[part].substring(from, to);
                if (Pattern.compile("[A-Za-z0-9]").matcher(words).find()) {
                    all.add((part == TERMS ? "terms" : "promise " + part) + ": " + words);
                }
                from = quoted[part].nextClearBit(to);
            }
        }
        return all;
    }
}
