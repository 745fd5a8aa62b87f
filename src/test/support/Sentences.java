import java.lang.reflect.InvocationTargetException;
import java.lang.reflect.Method;
import java.util.ArrayList;
import java.util.Comparator;
import java.util.List;

/** Runs a class's tests of single sentences and names each sentence that does not hold. */
final class Sentences {
    private Sentences() {
    }

    static void run(Class<?> tests, String[] args) {
        List<Method> all = methodsOf(tests);
        boolean listOnly = args.length > 0 && args[0].equals("list");
        int broken = 0;
        for (Method test : all) {
            Sentence sentence = test.getAnnotation(Sentence.class);
            if (listOnly) {
                System.out.println(test.getName() + "\t" + sentence.of() + "\t" + sentence.says());
            } else if (!holds(test)) {
                broken++;
                System.out.println("FAILED " + test.getName() + ", of " + sentence.of() + ": " + sentence.says());
            }
        }
        if (!listOnly) {
            System.out.println(all.size() - broken + " of " + all.size() + " sentences hold");
        }
        if (broken > 0 || all.isEmpty()) {
            System.exit(1);
        }
    }

    private static List<Method> methodsOf(Class<?> tests) {
        List<Method> all = new ArrayList<>();
        for (Method method : tests.getDeclaredMethods()) {
            if (method.isAnnotationPresent(Sentence.class)) {
                method.setAccessible(true);
                all.add(method);
            }
        }
        all.sort(Comparator.comparing(Method::getName));
        return all;
    }

    private static boolean holds(Method test) {
        int before = Due.wrong;
        try {
            test.invoke(null);
        } catch (InvocationTargetException | IllegalAccessException e) {
            System.out.println(test.getName() + " ended by " + (e.getCause() == null ? e : e.getCause()));
            return false;
        }
        return Due.wrong == before;
    }
}
