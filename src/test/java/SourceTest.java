import java.io.IOException;
import java.nio.file.Files;
import java.nio.file.Path;
import java.util.List;
import java.util.regex.Pattern;

/** Those rules of ../shared/LANGUAGE.md that can be seen from the lines of the program. */
public final class SourceTest {
    private static final String[] NEVER = {"\\bimport\\b", "\\bpackage\\b", "->", "::", "\\bcatch\\b", "\\bfinally\\b",
        "\\bassert\\b", "\\bsynchronized\\b", "\\bHashMap\\b", "\\bequals\\(", "\\bhashCode\\(", "\\btoString\\(",
        "Exact\\(", "\\bClass\\b", "\\bprotected\\b", "\\bvar\\b", "\\bInteger\\b", "\" \\+|\\+ \"",
        "\\bstatic final (?!int |long |boolean |char |String |class )"};
    private static final int MOST_LINES_OF_METHOD = 60;
    private static final int MOST_CLASSES = 12;
    private static final Pattern METHOD = Pattern.compile("( {4}| {8})(?!static final)\\S.*\\) ?(throws .*)?\\{");
    private static final Pattern CLASS = Pattern.compile(".*\\bclass [A-Z]\\w* .*\\{");
    private static final Pattern STATIC_FIELD = Pattern.compile(".*\\bstatic\\b[^(]*=.*");

    public static void main(String[] args) throws IOException {
        List<String> lines = Files.readAllLines(Path.of("src/main/java/RackMoves.java"));
        int classes = 0;
        for (int i = 0; i < lines.size(); i++) {
            String code = lines.get(i).replaceAll("//.*|/\\*.*|^ *\\*.*", "");
            for (String never : NEVER) {
                Check.is("line " + (i + 1) + " has " + never, Pattern.compile(never).matcher(code).find() ? 1 : 0, 0);
            }
            boolean open = STATIC_FIELD.matcher(code).matches() && !code.contains("final");
            Check.is("line " + (i + 1) + " has a static field that is not final", open ? 1 : 0, 0);
            classes += CLASS.matcher(code).matches() ? 1 : 0;
            if (METHOD.matcher(code).matches() && !code.contains(" class ")) {
                Check.is("lines of method at line " + (i + 1), Math.max(lengthFrom(lines, i), MOST_LINES_OF_METHOD),
                    MOST_LINES_OF_METHOD);
            }
        }
        Check.is("classes", Math.max(classes, MOST_CLASSES), MOST_CLASSES);
        Check.end();
    }

    private static int lengthFrom(List<String> lines, int start) {
        String indent = lines.get(start).replaceAll("\\S.*", "");
        int end = start;
        while (end < lines.size() && !lines.get(end).equals(indent + "}")) {
            end++;
        }
        return end - start + 1;
    }
}
