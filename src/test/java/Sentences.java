import java.lang.reflect.InvocationTargetException;
import java.lang.reflect.Method;
import java.util.ArrayList;
import java.util.Comparator;
import java.util.List;

/** Runs the tests of sentences that stand in a class: its methods that bear Says. */
final class Sentences {
    private Sentences() {
    }

    /** The tests of a class, in an order that does not change from run to run. */
    static List<Method> of(Class<?> tests) {
        List<Method> found = new ArrayList<>();
        for (Method m : tests.getDeclaredMethods()) {
            if (m.isAnnotationPresent(Says.class)) {
                found.add(m);
            }
        }
        found.sort(Comparator.comparing(Method::getName));
        return found;
    }

    /** Exit code 1 if one test fails; a test that throws fails, and the others are run all the same. */
    static void run(Class<?> tests) {
        int failed = 0;
        List<Method> all = of(tests);
        for (Method test : all) {
            Says says = test.getAnnotation(Says.class);
            String name = says.where() + " \"" + says.sentence() + "\", " + says.edge();
            if (!holds(test, new Check(name))) {
                failed++;
                System.out.println("BROKEN " + test.getName() + ": " + name);
            }
        }
        System.out.println(tests.getName() + ": " + all.size() + " tests of sentences, " + failed + " failed");
        if (failed != 0 || all.isEmpty()) {
            System.exit(1);
        }
    }

    private static boolean holds(Method test, Check check) {
        try {
            test.invoke(null, check);
        } catch (InvocationTargetException e) {
            System.out.println(test.getName() + " threw " + e.getCause());
            return false;
        } catch (IllegalAccessException e) {
            System.out.println(test.getName() + " can't be called: " + e);
            return false;
        }
        return check.isClean();
    }
}
