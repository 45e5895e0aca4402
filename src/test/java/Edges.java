import java.lang.reflect.InvocationTargetException;
import java.lang.reflect.Method;
import java.util.ArrayList;
import java.util.Comparator;
import java.util.List;

/** Where the tests of single sentences stand, and how one is run. */
final class Edges {
    private static final List<Class<?>> PLACES = List.of(CallEdges.class, TextEdges.class, WeekEdges.class,
        PlanEdges.class, ChanceEdges.class);

    private Edges() {
    }

    static List<Method> all() {
        List<Method> all = new ArrayList<>();
        for (Class<?> place : PLACES) {
            for (Method m : place.getDeclaredMethods()) {
                if (m.isAnnotationPresent(Edge.class)) {
                    m.setAccessible(true);
                    all.add(m);
                }
            }
        }
        all.sort(Comparator.comparing((Method m) -> m.getDeclaringClass().getName())
            .thenComparing(m -> m.getAnnotation(Edge.class).promise()).thenComparing(Method::getName));
        return all;
    }

    static String nameOf(Method m) {
        Edge edge = m.getAnnotation(Edge.class);
        return "promise " + edge.promise() + " \"" + edge.says() + "\" (" + m.getDeclaringClass().getName() + "." + m.getName() + ")";
    }

    /** Runs one; answers how many of its answers were not as due, one more if it threw. */
    static int run(Method m) throws IllegalAccessException {
        int ahead = Check.wrong();
        Check.head(nameOf(m));
        try {
            m.invoke(null);
        } catch (InvocationTargetException e) {
            Check.due("it threw " + e.getCause(), false, true);
        }
        Check.head("");
        return Check.wrong() - ahead;
    }

    /** The same from another class loader: by the names of the class and the method. */
    static int runNamed(String place, String name) throws ReflectiveOperationException {
        Check.quiet();
        Method m = Class.forName(place, true, Edges.class.getClassLoader()).getDeclaredMethod(name);
        m.setAccessible(true);
        return run(m);
    }
}
