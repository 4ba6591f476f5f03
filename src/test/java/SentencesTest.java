import java.io.IOException;
import java.lang.reflect.Method;
import java.nio.file.Files;
import java.nio.file.Path;
import java.util.ArrayList;
import java.util.List;
import java.util.Map;
import java.util.TreeMap;

/** Each sentence of ../shared/DOC.md, of its Terms and promises, is quoted by a test; and each quote stands there. */
public final class SentencesTest {
    private static final int PROMISES = 30;

    public static void main(String[] args) throws IOException {
        Map<Integer, List<String>> sentences = sentencesOf(Files.readAllLines(Path.of("../shared/DOC.md")));
        Check.is("parts of the document", sentences.size(), PROMISES + 1);
        Map<Integer, List<String>> quotes = quotes();
        for (Map.Entry<Integer, List<String>> each : sentences.entrySet()) {
            compare(each.getKey(), each.getValue(), quotes.getOrDefault(each.getKey(), List.of()));
        }
        Check.end();
    }

    /** The lines of the Terms, 0, and of each promise: without titles, heads, signatures, and what no call can tell. */
    private static Map<Integer, List<String>> sentencesOf(List<String> lines) {
        Map<Integer, List<String>> sentences = new TreeMap<>();
        int promise = -1;
        for (String line : lines) {
            if (line.startsWith("## ")) {
                promise = line.equals("## Terms") ? 0 : -1;
                promise = line.startsWith("## Promise ") ? Integer.parseInt(line.replaceAll("\\D", "")) : promise;
            } else if (promise >= 0 && !line.isBlank() && !line.startsWith("Ahead of the calls ")) {
                String bare = line.replaceAll("^- |^`[^`]*\\([^`]*`: |^(Plan text|[A-Z][a-z]+)\\. ", "");
                sentences.computeIfAbsent(promise, key -> new ArrayList<>()).add(bare);
            }
        }
        return sentences;
    }

    private static Map<Integer, List<String>> quotes() {
        Map<Integer, List<String>> quotes = new TreeMap<>();
        for (Class<?> tests : Sentences.TESTS) {
            for (Method test : Sentences.testsIn(tests)) {
                Says says = test.getAnnotation(Says.class);
                quotes.computeIfAbsent(says.promise(), key -> new ArrayList<>()).addAll(List.of(says.value()));
            }
        }
        return quotes;
    }

    private static void compare(int promise, List<String> lines, List<String> quotes) {
        List<boolean[]> quoted = new ArrayList<>();
        for (String line : lines) {
            quoted.add(new boolean[line.length()]);
        }
        for (String quote : quotes) {
            boolean found = false;
            for (int i = 0; i < lines.size(); i++) {
                found |= mark(lines.get(i), quote, quoted.get(i));
            }
            Check.is("promise " + promise + " says: " + quote, found ? 1 : 0, 1);
        }
        for (int i = 0; i < lines.size(); i++) {
            Check.same("of promise " + promise + " not quoted", rest(lines.get(i), quoted.get(i)), "");
        }
    }

    private static boolean mark(String line, String quote, boolean[] quoted) {
        int at = line.indexOf(quote);
        boolean found = at >= 0;
        while (at >= 0) {
            for (int i = at; i < at + quote.length(); i++) {
                quoted[i] = true;
            }
            at = line.indexOf(quote, at + 1);
        }
        return found;
    }

    private static String rest(String line, boolean[] quoted) {
        StringBuilder rest = new StringBuilder();
        for (int i = 0; i < line.length(); i++) {
            if (!quoted[i] && line.charAt(i) != ' ') {
                rest.append(line.charAt(i));
            }
        }
        return rest.toString();
    }
}
