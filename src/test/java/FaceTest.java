import java.lang.reflect.Constructor;
import java.lang.reflect.Field;
import java.lang.reflect.Method;
import java.lang.reflect.Modifier;
import java.util.Arrays;
import java.util.Set;
import java.util.TreeSet;

/** The public face is the one that the document prints, and there is nothing else that is not private. */
public final class FaceTest {
    private static final String INDEX = " IndexOutOfBoundsException";
    private static final String ARGUMENT = " IllegalArgumentException";
    private static final String STATE = " IllegalStateException";

    private static final String[] METHODS = {
        "int setLimit(int, int)" + INDEX + ARGUMENT,
        "int setTray(int, int)" + INDEX + ARGUMENT,
        "int setLevel(int)" + ARGUMENT,
        "int addMachine(int, int, int, int)" + ARGUMENT + STATE,
        "int addCable(int, int, int)" + INDEX + ARGUMENT + STATE,
        "int removeCable(int)" + INDEX,
        "int addFreeze(int, int, int)" + ARGUMENT + STATE,
        "int removeFreeze(int)" + INDEX,
        "int pass(int)" + ARGUMENT + STATE,
        "int machine(int, int)" + INDEX + ARGUMENT,
        "int rack(int, int)" + INDEX + ARGUMENT,
        "int slot(int, int)" + INDEX,
        "int cable(int, int)" + INDEX + ARGUMENT,
        "int tray(int)" + INDEX,
        "int value(int)" + ARGUMENT,
        "int move(int, int)" + INDEX + ARGUMENT,
        "int change(int, int)" + INDEX + ARGUMENT,
        "int backOut()",
        "int pile(int, int)" + INDEX + ARGUMENT,
        "int mayMove(int, int)" + INDEX + ARGUMENT,
        "int bestRack(int)" + INDEX,
        "int bestChange()",
        "int backable()",
        "double taken()",
        "int append(int)" + ARGUMENT + STATE,
        "int clearText()",
        "int plan()",
        "int undo()" + STATE,
        "long digest()",
    };

    public static void main(String[] args) {
        faceIsTheDocuments();
        nothingElseIsOpen();
        Check.end();
    }

    private static void faceIsTheDocuments() {
        Check.is("public and final", RackMoves.class.getModifiers(), Modifier.PUBLIC | Modifier.FINAL);
        Set<String> due = new TreeSet<>(Arrays.asList(METHODS));
        Set<String> got = new TreeSet<>();
        for (Method method : RackMoves.class.getDeclaredMethods()) {
            if (Modifier.isPublic(method.getModifiers())) {
                Check.is("static " + method.getName(), Modifier.isStatic(method.getModifiers()) ? 1 : 0, 0);
                got.add(faceOf(method));
            }
        }
        for (String each : due) {
            Check.is("there is " + each, got.contains(each) ? 1 : 0, 1);
        }
        for (String each : got) {
            Check.is("the document has " + each, due.contains(each) ? 1 : 0, 1);
        }
        Constructor<?>[] constructors = RackMoves.class.getDeclaredConstructors();
        Check.is("constructors", constructors.length, 1);
        Check.is("arguments of the constructor", constructors[0].getParameterCount(), 0);
        Check.is("public constructor", constructors[0].getModifiers(), Modifier.PUBLIC);
    }

    private static String faceOf(Method method) {
        StringBuilder face = new StringBuilder(method.getReturnType().getName());
        face.append(' ').append(method.getName()).append('(');
        String comma = "";
        for (Class<?> type : method.getParameterTypes()) {
            face.append(comma).append(type.getName());
            comma = ", ";
        }
        face.append(')');
        for (Class<?> type : method.getExceptionTypes()) {
            face.append(' ').append(type.getSimpleName());
        }
        return face.toString();
    }

    private static void nothingElseIsOpen() {
        Set<String> faceNames = new TreeSet<>();
        for (String method : METHODS) {
            faceNames.add(method.substring(method.indexOf(' ') + 1, method.indexOf('(')));
        }
        for (Method method : RackMoves.class.getDeclaredMethods()) {
            if (!Modifier.isPublic(method.getModifiers())) {
                Check.is("private " + method, Modifier.isPrivate(method.getModifiers()) ? 1 : 0, 1);
                Check.is("own name " + method, faceNames.contains(method.getName()) ? 1 : 0, 0);
            }
        }
        for (Field field : RackMoves.class.getDeclaredFields()) {
            boolean isNone = field.getName().equals("NONE");
            int due = isNone ? Modifier.PUBLIC | Modifier.STATIC | Modifier.FINAL : Modifier.PRIVATE;
            Check.is("modifiers of " + field, field.getModifiers() & (Modifier.PRIVATE | due), due);
        }
    }
}
