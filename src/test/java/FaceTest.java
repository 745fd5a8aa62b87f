import java.lang.management.ManagementFactory;
import java.lang.reflect.Constructor;
import java.lang.reflect.Field;
import java.lang.reflect.Member;
import java.lang.reflect.Method;
import java.lang.reflect.Modifier;
import java.util.Arrays;
import java.util.Set;
import java.util.TreeSet;

// The public face is the document's and no more; the dearest calls stay within the room of a run.
public final class FaceTest {
    private static int wrong = 0;

    private static void check(String what, boolean holds) {
        if (!holds) {
            wrong++;
            System.out.println("wrong: " + what);
        }
    }

    private static String told(Method m) {
        return m.getReturnType().getSimpleName() + " " + m.getName() + Arrays.toString(Arrays.stream(
                m.getParameterTypes()).map(Class::getSimpleName).toArray()) + Arrays.toString(Arrays.stream(
                m.getExceptionTypes()).map(Class::getSimpleName).toArray()) + Modifier.toString(m.getModifiers());
    }

    private static void face() {
        Set<String> want = new TreeSet<>(Arrays.asList(
                "int entry[int][]public", "int octets[int, int, long][]public", "int change[int, int, int][]public",
                "int pack[int, int][]public", "int common[int, int][]public",
                "int share[int, int][ArithmeticException]public", "int distance[int, int][]public",
                "int order[int][]public", "int twin[int][]public", "int group[int][]public", "int place[int][]public",
                "int access[int][]public", "int open[int, int][]public", "int of[int, int][]public",
                "int token[int, int, int][]public", "int sum[int][]public", "int count[int][]public"));
        Set<String> got = new TreeSet<>();
        Set<String> names = new TreeSet<>();
        for (Method m : SolidGroups.class.getDeclaredMethods()) {
            if (!Modifier.isPrivate(m.getModifiers())) {
                got.add(told(m));
                names.add(m.getName());
            }
        }
        check("the methods " + got, got.equals(want));
        for (Method m : SolidGroups.class.getDeclaredMethods()) {
            check("private " + m.getName(), !Modifier.isPrivate(m.getModifiers()) || !names.contains(m.getName()));
        }
        check("public and final", Modifier.toString(SolidGroups.class.getModifiers()).equals("public final"));
        Constructor<?>[] made = SolidGroups.class.getDeclaredConstructors();
        check("one constructor", made.length == 1 && made[0].getParameterCount() == 0
                && Modifier.isPublic(made[0].getModifiers()));
        Set<String> constants = new TreeSet<>();
        for (Field f : SolidGroups.class.getDeclaredFields()) {
            if (!Modifier.isPrivate(f.getModifiers())) {
                constants.add(f.getName() + " " + Modifier.toString(f.getModifiers()) + " " + f.getType());
            }
            check("static and not final: " + f.getName(), isFinalIfStatic(f));
        }
        check("the constants " + constants, constants.equals(new TreeSet<>(Arrays.asList(
                "BAD public static final int", "NO public static final int", "FULL public static final int"))));
    }

    private static boolean isFinalIfStatic(Member m) {
        return !Modifier.isStatic(m.getModifiers()) || Modifier.isFinal(m.getModifiers());
    }

    private static SolidGroups full(int kinds) {
        SolidGroups x = new SolidGroups();
        for (int e = 0; e < 30; e++) {
            x.entry(e % kinds);
            for (int k = 0; k < 7; k++) {
                x.octets(e, 8, (e * 31L + k) * 0x9E3779B97F4A7C15L);
            }
            x.octets(e, 4, e);
        }
        return x;
    }

    // 7.3 million fields and elements of 4 bytes at least: 29 million bytes.
    private static void room() {
        com.sun.management.ThreadMXBean threads =
                (com.sun.management.ThreadMXBean) ManagementFactory.getThreadMXBean();
        long self = Thread.currentThread().getId();
        long before = threads.getThreadAllocatedBytes(self);
        SolidGroups x = full(6);
        for (int call = 0; call < 512; call++) {
            if (x.pack(1 + call % 2 * 399, 2 - call % 3) <= 0 || x.change(call % 30, call % 60, call % 256) < 0) {
                check("pack or change refused", false);
            }
            x.sum(call % 6);
            x.open(call % 30, 59);
            x.access(call % 30);
        }
        long used = threads.getThreadAllocatedBytes(self) - before;
        check("room used: " + used + " bytes", used < 2000000);
    }

    public static void main(String[] args) {
        face();
        room();
        System.out.println(wrong == 0 ? "all is as due" : wrong + " things are not as due");
        if (wrong != 0) {
            System.exit(1);
        }
    }
}
