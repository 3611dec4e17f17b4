import java.lang.reflect.InvocationTargetException;
import java.lang.reflect.Method;
import java.util.Map;
import java.util.TreeMap;
import java.util.TreeSet;
import java.util.Set;

/** Runs every test of a class by its name, so that none can be forgotten in a list. */
final class Tests {
    private static final String PREFIX = "promise";

    private Tests() {
    }

    /** Runs the methods promiseN..; each promise from first to last must have one. */
    static void runAll(Class<?> tests, int first, int last, Check check) {
        Map<String, Method> found = new TreeMap<>();
        Set<Integer> promises = new TreeSet<>();
        for (Method m : tests.getDeclaredMethods()) {
            if (m.getName().startsWith(PREFIX)) {
                found.put(m.getName(), m);
                promises.add(promiseOf(m.getName()));
            }
        }
        for (int p = first; p <= last; p++) {
            check.due("promise " + p + " has a test in " + tests.getName(), promises.contains(p), true);
        }
        for (Method m : found.values()) {
            check.begin(m.getName());
            run(m, check);
        }
        check.end();
    }

    private static int promiseOf(String name) {
        int end = PREFIX.length();
        while (end < name.length() && Character.isDigit(name.charAt(end))) {
            end++;
        }
        return Integer.parseInt(name.substring(PREFIX.length(), end));
    }

    private static void run(Method m, Check check) {
        try {
            m.setAccessible(true);
            m.invoke(null);
        } catch (InvocationTargetException e) {
            check.due("the test", "threw " + e.getCause(), "ran to its end");
        } catch (IllegalAccessException e) {
            throw new AssertionError(e);
        }
    }
}
