import java.io.IOException;
import java.lang.reflect.InvocationTargetException;
import java.lang.reflect.Method;
import java.lang.reflect.Modifier;
import java.nio.file.Files;
import java.nio.file.Path;
import java.util.List;
import java.util.regex.Matcher;
import java.util.regex.Pattern;

// README.md's example answers what its comments say, and its table has every call of the face. It is
// read from the folder in which the test is run, the project's own.
public final class ReadmeTest {
    private static final Pattern CALL =
            Pattern.compile("x\\.(\\w+)\\((.*)\\);\\s*// (throws \\w+|BAD|NO|FULL|-?\\d+)(:.*)?");
    private static int wrong = 0;

    private static void check(String what, boolean holds) {
        if (!holds) {
            wrong++;
            System.out.println("wrong: " + what);
        }
    }

    private static Method called(String name) {
        for (Method method : SolidGroups.class.getDeclaredMethods()) {
            if (Modifier.isPublic(method.getModifiers()) && method.getName().equals(name)) {
                return method;
            }
        }
        throw new IllegalArgumentException("no call " + name);
    }

    private static long number(String written) {
        if (written.startsWith("'")) {
            return written.charAt(1);
        }
        return Long.decode(written.endsWith("L") ? written.substring(0, written.length() - 1) : written);
    }

    private static Object[] arguments(Method call, String written) {
        String[] each = written.split(", ");
        Class<?>[] types = call.getParameterTypes();
        check(call.getName() + "(" + written + ") has " + types.length + " arguments", each.length == types.length);
        Object[] all = new Object[types.length];
        for (int i = 0; i < all.length && i < each.length; i++) {
            if (types[i] == long.class) {
                all[i] = number(each[i]);
            } else {
                all[i] = Math.toIntExact(number(each[i]));
            }
        }
        return all;
    }

    private static String answer(SolidGroups x, String name, String written) throws IllegalAccessException {
        Method call = called(name);
        try {
            return String.valueOf(call.invoke(x, arguments(call, written)));
        } catch (InvocationTargetException e) {
            return "throws " + e.getCause().getClass().getSimpleName();
        }
    }

    private static String told(String written) {
        switch (written) {
            case "BAD": return "-1";
            case "NO": return "-2";
            case "FULL": return "-3";
            default: return written;
        }
    }

    private static void example(List<String> lines) throws IllegalAccessException {
        int from = lines.indexOf("```java");
        check("an example", from >= 0 && lines.get(from + 1).equals("SolidGroups x = new SolidGroups();"));
        SolidGroups x = new SolidGroups();
        int calls = 0;
        for (int i = from + 2; i < lines.size() && !lines.get(i).equals("```"); i++) {
            Matcher call = CALL.matcher(lines.get(i));
            check("a call and its answer: " + lines.get(i), call.matches());
            if (call.matches()) {
                String got = answer(x, call.group(1), call.group(2));
                check(lines.get(i) + " answered " + got, got.equals(told(call.group(3))));
                calls++;
            }
        }
        check("calls in the example: " + calls, calls > 0);
    }

    private static void table(List<String> lines) {
        for (Method method : SolidGroups.class.getDeclaredMethods()) {
            if (Modifier.isPublic(method.getModifiers())) {
                String row = "| `" + method.getName() + "(";
                check("a row of " + method.getName(), lines.stream().anyMatch(line -> line.startsWith(row)));
            }
        }
    }

    public static void main(String[] args) throws IOException, IllegalAccessException {
        List<String> lines = Files.readAllLines(Path.of("README.md"));
        example(lines);
        table(lines);
        System.out.println(wrong == 0 ? "all is as due" : wrong + " things are not as due");
        if (wrong != 0) {
            System.exit(1);
        }
    }
}
