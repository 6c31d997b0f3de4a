import java.lang.reflect.InvocationTargetException;
import java.lang.reflect.Method;
import java.lang.reflect.Modifier;
import java.util.ArrayList;
import java.util.Arrays;
import java.util.Comparator;
import java.util.List;

/**
 * Runs the tests of the promises, with answers worked out by hand: each static method without parameters of a class
 * Promise.. is a test of one sentence or boundary case of the document, and is told by its name behind its class's.
 */
public final class PromiseTests {
    private static final List<Class<? extends Checks>> PROMISES = List.of(Promise01NewObject.class,
        Promise02Feed.class, Promise03Commit.class, Promise04Delete.class, Promise05Load.class, Promise06Out.class,
        Promise07Clean.class, Promise08Power.class, Promise09Recover.class, Promise10Word.class, Promise11Told.class,
        Promise12Number.class, Promise13Key.class, Promise14Pack.class, Promise15Unpack.class, Promise16Place.class);

    private static int failed;

    public static void main(String[] args) {
        int run = 0;
        for (Class<?> promise : PROMISES) {
            List<Method> tests = testsOf(promise);
            if (tests.isEmpty()) {
                failed++;
                System.out.println("FAILED: " + promise.getSimpleName() + " has no test");
            }
            for (Method test : tests) {
                run(test);
                run++;
            }
        }
        System.out.println("PromiseTests: " + run + " tests of " + PROMISES.size() + " promises with "
            + Checks.checked() + " checks, " + failed + " tests failed");
        if (failed != 0) {
            System.exit(1);
        }
    }

    private static List<Method> testsOf(Class<?> promise) {
        List<Method> tests = new ArrayList<>();
        for (Method m : promise.getDeclaredMethods()) {
            boolean isTest = Modifier.isStatic(m.getModifiers()) && !Modifier.isPrivate(m.getModifiers());
            if (isTest && !m.isSynthetic() && m.getParameterCount() == 0) {
                tests.add(m);
            }
        }
        tests.sort(Comparator.comparing(Method::getName));
        return tests;
    }

    private static void run(Method test) {
        int before = Checks.checked();
        List<String> wrong = new ArrayList<>();
        try {
            test.invoke(null);
        } catch (InvocationTargetException e) {
            wrong.add("threw " + e.getCause() + " at " + Arrays.toString(e.getCause().getStackTrace()));
        } catch (IllegalAccessException e) {
            wrong.add("can't be run: " + e);
        }
        wrong.addAll(Checks.takeWrong());
        if (Checks.checked() == before && wrong.isEmpty()) {
            wrong.add("checked nothing");
        }
        if (!wrong.isEmpty()) {
            failed++;
            System.out.println("FAILED: " + test.getDeclaringClass().getSimpleName() + "." + test.getName());
            wrong.forEach(w -> System.out.println("    " + w));
        }
    }
}
