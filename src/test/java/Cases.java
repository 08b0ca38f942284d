import java.lang.reflect.InvocationTargetException;
import java.lang.reflect.Method;
import java.util.Map;
import java.util.TreeMap;

/** Runs each test of a class by itself: its static methods whose names begin with 'promise' and two digits. */
final class Cases {
    private static final String NAME = "promise\\d\\d[A-Z]\\w*";
    private static final int NUMBER_AT = "promise".length();

    private Cases() { }

    /** Ends the program, with the exit code 1 if a test fails, or if one of the promises has no test. */
    static void run(Class<?> owner, int firstPromise, int lastPromise) {
        Map<String, Method> tests = testsOf(owner);
        int failed = 0;
        for (Map.Entry<String, Method> test : tests.entrySet()) {
            if (!holds(test.getValue())) {
                failed++;
                System.out.println("failed: " + test.getKey());
            }
        }
        for (int promise = firstPromise; promise <= lastPromise; promise++) {
            if (!hasTest(tests, promise)) {
                failed++;
                System.out.println("no test for promise " + promise);
            }
        }
        System.out.println(owner.getSimpleName() + ": " + tests.size() + " tests, " + failed + " failed");
        System.exit(failed == 0 ? 0 : 1);
    }

    private static Map<String, Method> testsOf(Class<?> owner) {
        Map<String, Method> tests = new TreeMap<>();
        for (Method method : owner.getDeclaredMethods()) {
            if (method.getName().matches(NAME)) {
                tests.put(method.getName(), method);
            }
        }
        return tests;
    }

    private static boolean hasTest(Map<String, Method> tests, int promise) {
        for (String name : tests.keySet()) {
            if (Integer.parseInt(name.substring(NUMBER_AT, NUMBER_AT + 2)) == promise) {
                return true;
            }
        }
        return false;
    }

    private static boolean holds(Method test) {
        Checks checks = new Checks();
        try {
            test.invoke(null, checks);
        } catch (InvocationTargetException thrown) {
            System.out.println("it throws " + thrown.getCause());
            return false;
        } catch (IllegalAccessException | IllegalArgumentException thrown) {
            System.out.println("it cannot be run: " + thrown);
            return false;
        }
        return checks.allHold();
    }
}
