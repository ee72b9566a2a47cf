import java.lang.reflect.InvocationTargetException;
import java.lang.reflect.Method;
import java.util.ArrayList;
import java.util.Arrays;
import java.util.Comparator;
import java.util.List;
import java.util.regex.Matcher;
import java.util.regex.Pattern;

/**
 * Runs the tests of a class of edges: its methods p01_.. to p32_.., by the number of the promise
 * (p00_ for what holds for all of them), each with the sentence that it tests in Says.
 */
final class Edges {
    static final int LAST_PROMISE = 32;
    private static final Pattern NAME = Pattern.compile("p(\\d\\d)_\\w+");

    private Edges() { }

    static List<Method> of(Class<?> tests) {
        List<Method> edges = new ArrayList<>();
        for (Method method : tests.getDeclaredMethods()) {
            if (promiseOf(method) >= 0) {
                edges.add(method);
            }
        }
        edges.sort(Comparator.comparing(Method::getName));
        return edges;
    }

    /** The promise that a method's name begins with; -1 of a method that is no test. */
    static int promiseOf(Method method) {
        Matcher name = NAME.matcher(method.getName());
        return name.matches() ? Integer.parseInt(name.group(1)) : -1;
    }

    static String[] saidBy(Method edge) {
        Says says = edge.getAnnotation(Says.class);
        return says == null ? new String[0] : says.value();
    }

    static void run(Class<?> tests, Due due) {
        for (Method edge : of(tests)) {
            due.begin(edge.getName() + " " + Arrays.toString(saidBy(edge)));
            try {
                edge.invoke(null);
            } catch (InvocationTargetException e) {
                due.holds("it throws nothing, but " + e.getCause(), false);
            } catch (IllegalAccessException e) {
                due.holds("it can be called", false);
            }
        }
        due.end();
    }
}
