import java.lang.reflect.InvocationTargetException;
import java.lang.reflect.Method;
import java.util.ArrayList;
import java.util.Arrays;
import java.util.Comparator;
import java.util.List;

/** Runs the tests of sentences, each by itself: what one of them does, the next one does not see. */
final class Sentences {
    static final Class<?>[] TESTS = {EdgesOfRoomTermsTest.class, EdgesOfStepTermsTest.class,
        EdgesOfPlanTermsTest.class, EdgesOfSettingsTest.class, EdgesOfTellingTest.class, EdgesOfStepsTest.class,
        EdgesOfPlansTest.class};

    private Sentences() {
    }

    static List<Method> testsIn(Class<?> tests) {
        List<Method> found = new ArrayList<>();
        for (Method method : tests.getDeclaredMethods()) {
            if (method.isAnnotationPresent(Says.class)) {
                found.add(method);
            }
        }
        found.sort(Comparator.comparing(Method::getName));
        return found;
    }

    static void run(Class<?> tests) {
        Check.is("listed in Sentences.TESTS", Arrays.asList(TESTS).contains(tests) ? 1 : 0, 1);
        for (Method test : testsIn(tests)) {
            Check.begin(tests.getSimpleName() + "." + test.getName() + ": ");
            int before = Check.count();
            try {
                test.setAccessible(true);
                test.invoke(null);
            } catch (InvocationTargetException e) {
                Check.tell("threw " + e.getCause());
            } catch (IllegalAccessException e) {
                Check.tell("could not be called");
            }
            if (Check.count() == before) {
                Check.tell("checks nothing");
            }
        }
        Check.end();
    }
}
