import java.io.IOException;
import java.lang.reflect.Method;
import java.lang.reflect.Modifier;
import java.nio.charset.StandardCharsets;
import java.nio.file.Files;
import java.nio.file.Path;
import java.util.ArrayList;
import java.util.List;
import java.util.Set;
import java.util.TreeSet;
import java.util.regex.Matcher;
import java.util.regex.Pattern;
import java.util.stream.Stream;

/** What README.md tells holds: its example, its commands, and its tables of calls and tests, with none left out. */
public final class ReadmeTest {
    private static final Path README = Path.of("README.md");
    private static final Path PROGRAM = Path.of("src/main/java/RackMoves.java");
    private static final Path TESTS = Path.of("src/test/java");
    private static final Pattern TEST_NAME = Pattern.compile("`(\\w+Test)`");

    public static void main(String[] args) throws IOException, InterruptedException {
        List<String> lines = Files.readAllLines(README);
        examplePrintsWhatStandsHere(lines);
        eachCallIsInTheTable(lines);
        eachTestIsInTheTable(lines);
        commandOfAllTestsIsThere(lines);
        Check.end();
    }

    private static void examplePrintsWhatStandsHere(List<String> lines) throws IOException, InterruptedException {
        Path directory = Files.createTempDirectory("readme");
        Files.createDirectories(directory.resolve(PROGRAM).getParent());
        Files.copy(PROGRAM, directory.resolve(PROGRAM));
        Files.write(directory.resolve("Example.java"), block(lines, "java", 0));
        List<String> printed = new ArrayList<>();
        for (String command : block(lines, "sh", 0)) {
            printed.addAll(run(directory, command));
        }
        Check.same("what the example prints", printed, block(lines, "text", 0));
        delete(directory);
    }

    private static List<String> run(Path directory, String command) throws IOException, InterruptedException {
        Process process = new ProcessBuilder("sh", "-c", command).directory(directory.toFile())
            .redirectErrorStream(true).start();
        String printed = new String(process.getInputStream().readAllBytes(), StandardCharsets.UTF_8);
        Check.is("exit code of " + command, process.waitFor(), 0);
        return printed.lines().toList();
    }

    private static void delete(Path directory) throws IOException {
        try (Stream<Path> paths = Files.walk(directory)) {
            // What is in a directory is deleted ahead of it.
            for (Path path : paths.sorted(java.util.Comparator.reverseOrder()).toList()) {
                Files.delete(path);
            }
        }
    }

    private static void eachCallIsInTheTable(List<String> lines) {
        for (Method method : RackMoves.class.getDeclaredMethods()) {
            if (Modifier.isPublic(method.getModifiers())) {
                String name = "`" + method.getName() + "`";
                Check.is("rows of " + name, lines.stream().filter(line -> firstCell(line).contains(name)).count(), 1);
            }
        }
    }

    private static void eachTestIsInTheTable(List<String> lines) throws IOException {
        Set<String> named = new TreeSet<>();
        for (String line : lines) {
            Matcher matcher = TEST_NAME.matcher(firstCell(line));
            while (matcher.find()) {
                named.add(matcher.group(1));
            }
        }
        Set<String> there = new TreeSet<>();
        try (Stream<Path> files = Files.list(TESTS)) {
            files.map(file -> file.getFileName().toString()).filter(name -> name.endsWith("Test.java"))
                .forEach(name -> there.add(name.replace(".java", "")));
        }
        Check.same("the tests in the table", named, there);
    }

    private static void commandOfAllTestsIsThere(List<String> lines) {
        List<String> commands = block(lines, "sh", 1);
        Check.same("the command that runs all tests", commands, List.of(".ci/run"));
        Check.is("it can be run", Files.isExecutable(Path.of(".ci/run")) ? 1 : 0, 1);
    }

    private static String firstCell(String line) {
        return line.startsWith("| ") ? line.substring(2, line.indexOf('|', 2)) : "";
    }

    /** The lines of a block of this kind; no lines if there are not so many. */
    private static List<String> block(List<String> lines, String kind, int index) {
        List<String> block = new ArrayList<>();
        int begun = 0;
        boolean inside = false;
        for (String line : lines) {
            if (inside && line.equals("```")) {
                inside = false;
            } else if (inside && begun == index + 1) {
                block.add(line);
            } else if (!inside && line.equals("```" + kind)) {
                begun++;
                inside = true;
            }
        }
        Check.is("there is block " + index + " of " + kind, block.isEmpty() ? 0 : 1, 1);
        return block;
    }
}
