import java.lang.reflect.InvocationTargetException;
import java.lang.reflect.Method;
import java.util.ArrayList;
import java.util.Comparator;
import java.util.List;

/**
 * Runs the methods of a class that are named p, a promise's number in two digits, and the sentence they hold it
 * to (p02_nineBytesAreTooMany), each with answers of its own: one that is wrong does not hide the next.
 */
final class Edge {
    private Edge() {
    }

    static void runAll(Class<?> tests, int first, int last) {
        List<String> failed = new ArrayList<>();
        int[] ofPromise = new int[last + 1];
        int asked = 0;
        List<Method> methods = namedByPromise(tests);
        for (Method test : methods) {
            Due due = new Due(test.getName() + ": ");
            run(test, due);
            asked += due.asked();
            if (due.wrong() != 0 || due.asked() == 0) {
                failed.add(test.getName());
            }
            int promise = promiseOf(test);
            if (promise < first || promise > last) {
                failed.add(test.getName() + " is not of promises " + first + " to " + last);
            } else {
                ofPromise[promise]++;
            }
        }
        for (int promise = first; promise <= last; promise++) {
            if (ofPromise[promise] == 0) {
                failed.add("promise " + promise + " has no test");
            }
        }
        for (String name : failed) {
            System.out.println("failed: " + name);
        }
        System.out.println(methods.size() + " tests, " + asked + " answers, " + failed.size() + " failed");
        if (!failed.isEmpty()) {
            System.exit(1);
        }
    }

    private static List<Method> namedByPromise(Class<?> tests) {
        List<Method> named = new ArrayList<>();
        for (Method method : tests.getDeclaredMethods()) {
            if (method.getName().matches("p\\d\\d_\\w+")) {
                named.add(method);
            }
        }
        named.sort(Comparator.comparing(Method::getName));
        return named;
    }

    private static int promiseOf(Method test) {
        return Integer.parseInt(test.getName().substring(1, 3));
    }

    private static void run(Method test, Due due) {
        try {
            test.invoke(null, due);
        } catch (InvocationTargetException thrown) {
            due.isText("what was thrown", String.valueOf(thrown.getCause()), "nothing");
        } catch (IllegalAccessException hidden) {
            due.isText("what was thrown", hidden.toString(), "nothing");
        }
    }
}
