import java.lang.reflect.InvocationTargetException;
import java.lang.reflect.Method;
import java.util.Arrays;
import java.util.Comparator;

/**
 * Runs every test of a boundary sentence of the document. Their methods are named promiseNN_.. by the promise
 * that the sentence belongs to, so none can be left out by mistake, and each promise must have one.
 */
public final class EdgesTest {
    private static final int PROMISES = 35;
    private static final Class<?>[] GROUPS = {EdgesOfTheStreet.class, EdgesOfTheLaw.class, EdgesOfRosters.class,
        EdgesOfOrders.class, EdgesOfHours.class, EdgesOfAnswers.class, EdgesOfCarrying.class, EdgesOfFalling.class,
        EdgesOfHandiwork.class, EdgesOfKeeping.class};

    public static void main(String[] args) throws ReflectiveOperationException {
        int[] tests = new int[PROMISES + 1];
        for (Class<?> group : GROUPS) {
            Method[] methods = group.getDeclaredMethods();
            Arrays.sort(methods, Comparator.comparing(Method::getName));
            for (Method method : methods) {
                if (method.getName().startsWith("promise")) {
                    tests[Integer.parseInt(method.getName().substring(7, 9))]++;
                    run(method);
                }
            }
        }
        for (int promise = 1; promise <= PROMISES; promise++) {
            Edges.is("promise " + promise + " has tests of its edges", tests[promise] > 0, true);
        }
        Edges.end("EdgesTest (" + Arrays.stream(tests).sum() + " sentences)");
    }

    private static void run(Method method) throws ReflectiveOperationException {
        Edges.begin(method);
        method.setAccessible(true);
        try {
            method.invoke(null);
        } catch (InvocationTargetException thrown) {
            thrown.getCause().printStackTrace(System.out);
            Edges.is("threw " + thrown.getCause(), 1, 0);
        }
    }
}
