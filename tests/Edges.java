import java.lang.reflect.InvocationTargetException;
import java.lang.reflect.Method;
import java.lang.reflect.Modifier;
import java.util.ArrayList;
import java.util.Comparator;
import java.util.List;

/** Runs the tests of a class, each by itself: its static methods that take a Check and answer nothing. */
final class Edges {
    private Edges() {
    }

    static List<Method> tests(Class<?> all) {
        List<Method> tests = new ArrayList<>();
        for (Method m : all.getDeclaredMethods()) {
            if (Modifier.isStatic(m.getModifiers()) && !Modifier.isPrivate(m.getModifiers())
                    && m.getReturnType() == void.class && m.getParameterCount() == 1
                    && m.getParameterTypes()[0] == Check.class) {
                tests.add(m);
            }
        }
        tests.sort(Comparator.comparing(Method::getName));
        return tests;
    }

    static void run(Class<?> all) throws IllegalAccessException {
        int passed = 0;
        int failed = 0;
        for (Method test : tests(all)) {
            if (holds(test)) {
                passed++;
            } else {
                failed++;
                System.out.println("FAILED: " + all.getName() + "." + test.getName());
            }
        }
        System.out.println(all.getName() + ": " + passed + " tests passed, " + failed + " failed");
        if (failed != 0 || passed == 0) {
            System.exit(1);
        }
    }

    private static boolean holds(Method test) throws IllegalAccessException {
        Check c = new Check();
        try {
            test.invoke(null, c);
        } catch (InvocationTargetException e) {
            System.out.println(test.getName() + " ended with " + e.getCause());
            return false;
        }
        return c.failed() == 0 && c.passed() > 0;
    }
}
