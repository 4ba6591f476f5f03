import java.io.IOException;
import java.lang.reflect.Constructor;
import java.lang.reflect.Field;
import java.lang.reflect.Method;
import java.lang.reflect.Modifier;
import java.nio.file.Files;
import java.nio.file.Path;
import java.util.ArrayList;
import java.util.Arrays;
import java.util.List;
import java.util.Set;
import java.util.TreeSet;
import java.util.regex.Matcher;
import java.util.regex.Pattern;

/** The public face is the one that the document prints, and there is nothing else that is not private. */
public final class FaceTest {
    private static final String INDEX = " IndexOutOfBoundsException";
    private static final String ARGUMENT = " IllegalArgumentException";
    private static final String STATE = " IllegalStateException";

    private static final Pattern OPEN_LINES = Pattern.compile("(?m)^ {4}public ([^;{]*[^;{ ]) ?[;{]");
    private static final Pattern HEADING = Pattern.compile("// ---- (.*)");
    private static final Pattern SAYING = Pattern.compile("Ahead of the calls (.*) the interface says: ---- (.*)\\.");

    private static final String[] METHODS = {
        "int setLimit(int, int)" + INDEX + ARGUMENT,
        "int setTray(int, int)" + INDEX + ARGUMENT,
        "int setLevel(int)" + ARGUMENT,
        "int addMachine(int, int, int, int)" + ARGUMENT + STATE,
        "int addCable(int, int, int)" + INDEX + ARGUMENT + STATE,
        "int removeCable(int)" + INDEX,
        "int addFreeze(int, int, int)" + ARGUMENT + STATE,
        "int removeFreeze(int)" + INDEX,
        "int pass(int)" + ARGUMENT + STATE,
        "int machine(int, int)" + INDEX + ARGUMENT,
        "int rack(int, int)" + INDEX + ARGUMENT,
        "int slot(int, int)" + INDEX,
        "int cable(int, int)" + INDEX + ARGUMENT,
        "int tray(int)" + INDEX,
        "int value(int)" + ARGUMENT,
        "int move(int, int)" + INDEX + ARGUMENT,
        "int change(int, int)" + INDEX + ARGUMENT,
        "int backOut()",
        "int pile(int, int)" + INDEX + ARGUMENT,
        "int mayMove(int, int)" + INDEX + ARGUMENT,
        "int bestRack(int)" + INDEX,
        "int bestChange()",
        "int backable()",
        "double taken()",
        "int append(int)" + ARGUMENT + STATE,
        "int clearText()",
        "int plan()",
        "int undo()" + STATE,
        "long digest()",
    };

    public static void main(String[] args) throws IOException {
        String document = Files.readString(Path.of("../shared/DOC.md"));
        String program = Files.readString(Path.of("src/main/java/RackMoves.java"));
        faceIsTheDocuments();
        nothingElseIsOpen();
        Check.is("NONE", RackMoves.NONE, -1);
        Check.same("the face, line by line", openLines(program), openLines(document));
        Check.is("lines of the face", openLines(document).size(), METHODS.length + 2);
        headingsAreTheDocuments(document, program);
        Check.end();
    }

    private static void faceIsTheDocuments() {
        Check.is("public and final", RackMoves.class.getModifiers(), Modifier.PUBLIC | Modifier.FINAL);
        Set<String> due = new TreeSet<>(Arrays.asList(METHODS));
        Set<String> got = new TreeSet<>();
        for (Method method : RackMoves.class.getDeclaredMethods()) {
            if (Modifier.isPublic(method.getModifiers())) {
                Check.is("static " + method.getName(), Modifier.isStatic(method.getModifiers()) ? 1 : 0, 0);
                got.add(faceOf(method));
            }
        }
        for (String each : due) {
            Check.is("there is " + each, got.contains(each) ? 1 : 0, 1);
        }
        for (String each : got) {
            Check.is("the document has " + each, due.contains(each) ? 1 : 0, 1);
        }
        Constructor<?>[] constructors = RackMoves.class.getDeclaredConstructors();
        Check.is("constructors", constructors.length, 1);
        Check.is("arguments of the constructor", constructors[0].getParameterCount(), 0);
        Check.is("public constructor", constructors[0].getModifiers(), Modifier.PUBLIC);
    }

    private static String faceOf(Method method) {
        StringBuilder face = new StringBuilder(method.getReturnType().getName());
        face.append(' ').append(method.getName()).append('(');
        String comma = "";
        for (Class<?> type : method.getParameterTypes()) {
            face.append(comma).append(type.getName());
            comma = ", ";
        }
        face.append(')');
        for (Class<?> type : method.getExceptionTypes()) {
            face.append(' ').append(type.getSimpleName());
        }
        return face.toString();
    }

    private static void nothingElseIsOpen() {
        Set<String> faceNames = new TreeSet<>();
        for (String method : METHODS) {
            faceNames.add(method.substring(method.indexOf(' ') + 1, method.indexOf('(')));
        }
        for (Method method : RackMoves.class.getDeclaredMethods()) {
            if (!Modifier.isPublic(method.getModifiers())) {
                Check.is("private " + method, Modifier.isPrivate(method.getModifiers()) ? 1 : 0, 1);
                Check.is("own name " + method, faceNames.contains(method.getName()) ? 1 : 0, 0);
            }
        }
        for (Field field : RackMoves.class.getDeclaredFields()) {
            boolean isNone = field.getName().equals("NONE");
            int due = isNone ? Modifier.PUBLIC | Modifier.STATIC | Modifier.FINAL : Modifier.PRIVATE;
            Check.is("modifiers of " + field, field.getModifiers() & (Modifier.PRIVATE | due), due);
        }
    }

    /** With the names of the arguments, in their order. */
    private static List<String> openLines(String text) {
        List<String> lines = new ArrayList<>();
        Matcher matcher = OPEN_LINES.matcher(text);
        while (matcher.find()) {
            lines.add(matcher.group(1).replaceAll("\\s+", " "));
        }
        return lines;
    }

    private static void headingsAreTheDocuments(String document, String program) {
        int told = 0;
        Matcher saying = SAYING.matcher(document);
        while (saying.find()) {
            for (String call : saying.group(1).replace("`", "").split(", ")) {
                Check.same("heading of " + call, headingAheadOf(call, program), saying.group(2));
                told++;
            }
        }
        Check.is("calls that have a heading", told, METHODS.length);
    }

    private static String headingAheadOf(String call, String program) {
        Matcher start = Pattern.compile("(?m)^ {4}public \\w+ " + call + "\\(").matcher(program);
        String heading = "";
        if (start.find()) {
            Matcher matcher = HEADING.matcher(program.substring(0, start.start()));
            while (matcher.find()) {
                heading = matcher.group(1);
            }
        }
        return heading;
    }
}
