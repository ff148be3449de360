import java.lang.reflect.InvocationTargetException;
import java.lang.reflect.Method;
import java.lang.reflect.Modifier;
import java.util.Map;
import java.util.TreeMap;

/** Runs each edge of a test: each method named by its promise (promise7...) is one, so that none is forgotten. */
final class Edges {
    static void run(Class<?> tests) throws IllegalAccessException {
        Map<String, Method> edges = new TreeMap<>();
        for (Method method : tests.getDeclaredMethods()) {
            if (method.getName().matches("(promise[0-9]|terms).*") && Modifier.isStatic(method.getModifiers())) {
                edges.put(method.getName(), method);
            }
        }
        for (Map.Entry<String, Method> edge : edges.entrySet()) {
            Due.begin(edge.getKey());
            edge.getValue().setAccessible(true);
            try {
                edge.getValue().invoke(null);
            } catch (InvocationTargetException thrown) {
                Due.holds("nothing is thrown, but " + thrown.getCause(), false);
            }
            Due.holds("something is looked at", Due.looked());
        }
        System.out.print(edges.size() + " edges, ");
        Due.end();
    }

    private Edges() {
    }
}
