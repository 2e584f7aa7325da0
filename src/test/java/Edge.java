import java.io.IOException;
import java.io.UncheckedIOException;
import java.nio.file.Files;
import java.nio.file.Path;
import java.util.BitSet;
import java.util.LinkedHashMap;
import java.util.Map;
import java.util.regex.Matcher;
import java.util.regex.Pattern;

/**
 * The document's words, and the answers due at their edges. A test first tells which words it is
 * of: they must stand in that part of the document, and an answer must follow. At the end no
 * clause of the document may be left without a test.
 */
final class Edge {
    private static final Path DOC = Path.of("../shared/DOC.md");
    /** Where one clause ends and the next begins; the dots of "0 .. 3" end none. */
    private static final Pattern CLAUSE_END = Pattern.compile("(?<=[^.][.;])\\s+");
    private static final String USE = "What it is";

    private static final Map<String, String> PARTS = parts();
    private static final Map<String, BitSet> QUOTED = new LinkedHashMap<>();
    private static String label = "";
    private static int answers = 1;

    private Edge() {
    }

    /** The words of a part ("Terms", "Text 1", "Promise 2", ..) that the next answers are of. */
    static void of(String part, String words) {
        isAnswered();
        String whole = PARTS.getOrDefault(part, "");
        int from = whole.indexOf(words);
        label = part + ", \"" + words + "\"";
        Check.due(label, "stands in the document", from >= 0 ? 1 : 0, 1);
        if (from >= 0) {
            QUOTED.computeIfAbsent(part, name -> new BitSet()).set(from, from + words.length());
        }
        answers = 0;
    }

    static void due(String call, long got, long want) {
        answers++;
        Check.due(label, call, got, want);
    }

    /** The answer of a call, and what fault() tells then. */
    static void due(DeafAuction x, String call, long got, long want, int fault) {
        due(call, got, want);
        due("fault() after " + call, x.fault(), fault);
    }

    /** Every clause of every part has been quoted by a test. */
    static void finish() {
        isAnswered();
        PARTS.forEach((part, whole) -> {
            if (!part.equals(USE)) {
                isCovered(part, whole);
            }
        });
        Check.due("the document", "parts found: " + PARTS.keySet(), PARTS.size(), 1 + 6 + 32);
    }

    private static void isAnswered() {
        Check.due(label, "has a test", answers > 0 ? 1 : 0, 1);
    }

    private static void isCovered(String part, String whole) {
        BitSet quoted = QUOTED.getOrDefault(part, new BitSet());
        Matcher end = CLAUSE_END.matcher(whole);
        int from = 0;
        while (from < whole.length()) {
            int to = end.find(from) ? end.start() : whole.length();
            boolean tested = !quoted.get(from, to).isEmpty();
            Check.due(part, "\"" + whole.substring(from, to) + "\" is tested", tested ? 1 : 0, 1);
            from = to == whole.length() ? to : end.end();
        }
    }

    private static Map<String, String> parts() {
        String doc;
        try {
            doc = Files.readString(DOC);
        } catch (IOException e) {
            throw new UncheckedIOException(e);
        }
        Map<String, String> parts = new LinkedHashMap<>();
        parts.put(USE, plain(between(doc, "## What it is", "## The public face")));
        String[] terms = between(doc, "## Terms", "Ahead of the calls").split("==== (?=\\d )");
        for (int t = 0; t < terms.length; t++) {
            parts.put(t == 0 ? "Terms" : "Text " + t, plain(terms[t]));
        }
        Matcher promise = Pattern.compile("(?s)## (Promise \\d+): \\w+[^\\n]*\\n(.*?)(?=\\n## )").matcher(doc);
        while (promise.find()) {
            parts.put(promise.group(1), plain(promise.group(2)));
        }
        return parts;
    }

    private static String between(String doc, String head, String tail) {
        int from = doc.indexOf(head);
        int to = doc.indexOf(tail, Math.max(from, 0));
        return from < 0 || to < 0 ? "" : doc.substring(from + head.length(), to);
    }

    private static String plain(String text) {
        return text.replaceAll("```(text)?", " ").replaceAll("\\s+", " ").trim();
    }
}
