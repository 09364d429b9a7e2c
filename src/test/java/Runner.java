import java.lang.reflect.InvocationTargetException;
import java.lang.reflect.Method;
import java.lang.reflect.Modifier;
import java.util.Arrays;
import java.util.Comparator;

/** Runs the tests of a class, each with a Check of its own. They are found by their form, so that none is forgotten. */
final class Runner {
    private Runner() {
    }

    static void run(Class<?> tests) {
        Method[] methods = tests.getDeclaredMethods();
        Arrays.sort(methods, Comparator.comparing(Method::getName));
        int ran = 0;
        int failed = 0;
        for (Method method : methods) {
            if (isTest(method)) {
                ran++;
                boolean passed = passes(method);
                System.out.println((passed ? "ok      " : "FAILED  ") + tests.getName() + "." + method.getName());
                failed += passed ? 0 : 1;
            }
        }
        if (ran == 0 || failed != 0) {
            System.out.println(failed + " of " + ran + " tests failed");
            System.exit(1);
        }
    }

    private static boolean isTest(Method method) {
        return !Modifier.isPrivate(method.getModifiers())
                && Arrays.equals(method.getParameterTypes(), new Class<?>[] {Check.class});
    }

    private static boolean passes(Method method) {
        Check check = new Check();
        try {
            method.invoke(null, check);
        } catch (InvocationTargetException thrown) {
            thrown.getCause().printStackTrace(System.out);
            return false;
        } catch (IllegalAccessException refused) {
            throw new IllegalStateException(refused);
        }
        return check.allAsDue();
    }
}
