import java.lang.reflect.InvocationTargetException;
import java.lang.reflect.Method;
import java.util.Arrays;
import java.util.Comparator;
import java.util.TreeSet;

/**
 * Runs every method of the test classes that is named promiseNN... or readme..., and fails if a promise has
 * none, or none named promiseNNEdge..., which is a test at a boundary that the document names.
 */
public final class AllTests {
    private static final int PROMISES = 26;
    private static final Class<?>[] CLASSES = {
        GoldTests.class, SectionTests.class, TextTests.class, LookTests.class,
        ForecastTests.class, GoldEdges.class, SectionEdges.class, DayEdges.class, TextEdges.class,
        UndoEdges.class, LookEdges.class, ForecastEdges.class, DigestEdges.class, RefusalTests.class,
        FaceTests.class, ModelTests.class, ReadmeTests.class,
    };

    private AllTests() {
    }

    public static void main(String[] args) throws IllegalAccessException {
        TreeSet<Integer> tested = new TreeSet<>();
        TreeSet<Integer> testedAtEdges = new TreeSet<>();
        int passed = 0;
        int failed = 0;
        for (Class<?> tests : CLASSES) {
            Method[] methods = tests.getDeclaredMethods();
            Arrays.sort(methods, Comparator.comparing(Method::getName));
            for (Method method : methods) {
                boolean isOfPromise = method.getName().startsWith("promise");
                if (!isOfPromise && !method.getName().startsWith("readme")) {
                    continue;
                }
                if (isOfPromise) {
                    int number = Integer.parseInt(method.getName().substring(7, 9));
                    tested.add(number);
                    if (method.getName().startsWith("Edge", 9)) {
                        testedAtEdges.add(number);
                    }
                }
                if (passes(method)) {
                    passed++;
                } else {
                    failed++;
                    System.out.println("FAILED: " + tests.getSimpleName() + "." + method.getName());
                }
            }
        }
        for (int promise = 1; promise <= PROMISES; promise++) {
            if (!tested.contains(promise)) {
                failed++;
                System.out.println("FAILED: promise " + promise + " has no test");
            }
            if (!testedAtEdges.contains(promise)) {
                failed++;
                System.out.println("FAILED: promise " + promise + " has no test at its edges");
            }
        }
        System.out.println(Checks.passed() + " answers as due, " + Checks.failed() + " not");
        System.out.println(passed + " passed, " + failed + " failed");
        if (failed != 0) {
            System.exit(1);
        }
    }

    private static boolean passes(Method method) throws IllegalAccessException {
        int failedBefore = Checks.failed();
        int passedBefore = Checks.passed();
        try {
            method.invoke(null);
        } catch (InvocationTargetException e) {
            e.getCause().printStackTrace(System.out);
            return false;
        }
        return Checks.failed() == failedBefore && Checks.passed() > passedBefore;
    }
}
