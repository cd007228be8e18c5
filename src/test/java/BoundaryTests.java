import java.lang.reflect.InvocationTargetException;
import java.lang.reflect.Method;
import java.util.TreeMap;

/**
 * Each boundary case that the document names: a method of its own, which bears the promise's number and the case.
 * One case can be run alone: java BoundaryTests promise12_theThirtyFirstLatestStepStays
 */
public final class BoundaryTests extends Boundaries {
    private static final Class<?>[] CASES = {HandBoundaries.class, TextBoundaries.class, FaultBoundaries.class, SearchBoundaries.class,
        KeptBoundaries.class};

    public static void main(String[] args) throws IllegalAccessException {
        TreeMap<String, Method> cases = new TreeMap<>();
        for (Class<?> one : CASES) {
            for (Method method : one.getDeclaredMethods()) {
                if (method.getName().startsWith("promise")) {
                    due("a name is there once: " + method.getName(), cases.put(method.getName(), method) == null, true);
                }
            }
        }
        for (int promise = 1; promise <= 26; promise++) {
            String name = String.format("promise%02d_", promise);
            due("a case of " + name, cases.ceilingKey(name) != null && cases.ceilingKey(name).startsWith(name), true);
        }
        int run = 0;
        for (String name : cases.keySet()) {
            if (args.length == 0 || name.equals(args[0])) {
                runOne(name, cases.get(name));
                run++;
            }
        }
        due("there is such a case", run > 0, true);
        System.out.print(run + " boundary cases: ");
        end();
    }

    private static void runOne(String name, Method method) throws IllegalAccessException {
        under(name);
        try {
            method.invoke(null);
        } catch (InvocationTargetException thrown) {
            due("throws", String.valueOf(thrown.getCause()), "nothing");
        }
    }
}
