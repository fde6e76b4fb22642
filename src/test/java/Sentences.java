import java.lang.reflect.InvocationTargetException;
import java.lang.reflect.Method;
import java.util.Arrays;
import java.util.Comparator;
import java.util.Set;
import java.util.TreeSet;

/**
 * Runs tests of single sentences: the static methods whose names begin with p and a promise's
 * number (p05_..), or with t and the number of a part of the Terms (t1_..).
 */
final class Sentences {
    private static final Set<String> PROMISES = new TreeSet<>();
    private static int sentences = 0;

    private Sentences() {
    }

    static void run(Class<?> tests) {
        Method[] methods = tests.getDeclaredMethods();
        Arrays.sort(methods, Comparator.comparing(Method::getName));
        for (Method method : methods) {
            if (method.getName().matches("(p\\d\\d|t\\d)_\\w+")) {
                runOne(tests.getSimpleName() + "." + method.getName(), method);
            }
        }
    }

    private static void runOne(String name, Method method) {
        int before = Due.answers();
        Due.begin(name);
        sentences++;
        PROMISES.add(method.getName().substring(0, 3));
        try {
            method.setAccessible(true);
            method.invoke(null);
        } catch (InvocationTargetException thrown) {
            Due.due("threw " + thrown.getCause(), 1, 0);
        } catch (IllegalAccessException closed) {
            Due.due("cannot be run: " + closed, 1, 0);
        }
        Due.due("looks at an answer", Due.answers() > before ? 1 : 0, 1);
    }

    /** Each of promises 1 to 38 has a sentence's test. */
    static void end(String name) {
        Due.begin(name);
        for (int promise = 1; promise <= 38; promise++) {
            String due = (promise < 10 ? "p0" : "p") + promise;
            Due.due("a test named " + due, PROMISES.contains(due) ? 1 : 0, 1);
        }
        Due.end(name + ": " + sentences + " sentences");
    }
}
