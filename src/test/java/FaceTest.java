import java.io.IOException;
import java.lang.management.ManagementFactory;
import java.lang.reflect.Constructor;
import java.lang.reflect.Field;
import java.lang.reflect.Method;
import java.lang.reflect.Modifier;
import java.nio.file.Files;
import java.nio.file.Path;
import java.util.Set;
import java.util.TreeSet;
import java.util.regex.Matcher;
import java.util.regex.Pattern;

/** The public face as the document writes it, nothing besides, and that no call makes an object. */
public final class FaceTest {
    private static final Path DOCUMENT = Path.of("../shared/DOC.md");

    public static void main(String[] args) throws IOException, IllegalAccessException {
        String document = Files.readString(DOCUMENT);
        dueSame("methods", methods(), methodsOf(document));
        dueSame("constants", constants(), constantsOf(document));
        dueSame("constructors", constructors(), Set.of("GooseTrain()"));
        theClass();
        roomOfCalls();
        Checks.end("FaceTest");
    }

    private static void dueSame(String what, Set<String> got, Set<String> want) {
        Checks.due(what + " are " + got + ", due are " + want + ": same", got.equals(want) ? 1 : 0, 1);
    }

    /** Each as "int lay(int, int, int)". */
    private static Set<String> methodsOf(String document) {
        Set<String> methods = new TreeSet<>();
        Matcher m = Pattern.compile("    public (int|long) (\\w+)\\(([^)]*)\\);").matcher(document);
        while (m.find()) {
            String types = m.group(3).replaceAll("(\\w+) \\w+", "$1");
            methods.add(m.group(1) + " " + m.group(2) + "(" + types + ")");
        }
        return methods;
    }

    private static Set<String> methods() {
        Set<String> methods = new TreeSet<>();
        for (Method method : GooseTrain.class.getDeclaredMethods()) {
            int flags = method.getModifiers();
            if (Modifier.isPublic(flags)) {
                String name = method.getReturnType() + " " + method.getName() + typesOf(method.getParameterTypes());
                boolean unlike = Modifier.isStatic(flags) || method.getExceptionTypes().length > 0;
                methods.add(unlike ? name + " static, or throws" : name);
            } else if (!Modifier.isPrivate(flags)) {
                Checks.fail("not private: " + method);
            }
        }
        return methods;
    }

    private static String typesOf(Class<?>[] types) {
        StringBuilder list = new StringBuilder();
        for (Class<?> type : types) {
            list.append(list.length() == 0 ? "" : ", ").append(type.getName());
        }
        return "(" + list + ")";
    }

    /** Each as "BAD = -1". */
    private static Set<String> constantsOf(String document) {
        Matcher line = Pattern.compile("public static final int ([^;]*);").matcher(document);
        if (!line.find()) {
            return Set.of();
        }
        return new TreeSet<>(Set.of(line.group(1).split(", ")));
    }

    /** As the class has them when it runs, not as they were when this test was compiled. */
    private static Set<String> constants() throws IllegalAccessException {
        Set<String> constants = new TreeSet<>();
        for (Field field : GooseTrain.class.getDeclaredFields()) {
            int flags = field.getModifiers();
            if (Modifier.isPublic(flags)) {
                boolean constant = Modifier.isStatic(flags) && Modifier.isFinal(flags) && field.getType() == int.class;
                constants.add(field.getName() + " = " + (constant ? field.get(null) : "no constant"));
            } else if (!Modifier.isPrivate(flags)) {
                Checks.fail("not private: " + field);
            }
        }
        return constants;
    }

    private static Set<String> constructors() {
        Set<String> constructors = new TreeSet<>();
        for (Constructor<?> constructor : GooseTrain.class.getDeclaredConstructors()) {
            String flags = Modifier.isPublic(constructor.getModifiers()) ? "" : "not public ";
            constructors.add(flags + constructor.getName() + typesOf(constructor.getParameterTypes()));
        }
        return constructors;
    }

    private static void theClass() {
        Checks.due("public", Modifier.isPublic(GooseTrain.class.getModifiers()) ? 1 : 0, 1);
        Checks.due("final", Modifier.isFinal(GooseTrain.class.getModifiers()) ? 1 : 0, 1);
        Checks.due("above it is Object alone", GooseTrain.class.getSuperclass() == Object.class ? 1 : 0, 1);
        Checks.due("interfaces", GooseTrain.class.getInterfaces().length, 0);
        Checks.due("in a package", GooseTrain.class.getPackageName().length(), 0);
        for (Class<?> inside : GooseTrain.class.getDeclaredClasses()) {
            int flags = inside.getModifiers();
            if (!Modifier.isStatic(flags) || Modifier.isPublic(flags) || Modifier.isProtected(flags)) {
                Checks.fail("not static, or to be seen: " + inside);
            }
        }
    }

    /** All calls of a run live in one room: the calls make nothing, all stands from the constructor on. */
    private static void roomOfCalls() {
        if (!(ManagementFactory.getThreadMXBean() instanceof com.sun.management.ThreadMXBean)) {
            return;
        }
        com.sun.management.ThreadMXBean threads = (com.sun.management.ThreadMXBean) ManagementFactory.getThreadMXBean();
        if (!threads.isThreadAllocatedMemorySupported()) {
            return;
        }
        long thread = Thread.currentThread().getId();
        dearCalls(Checks.village("o1400 g1400 k1400 s1400 c1400 p1400 o1400"));
        GooseTrain goose = Checks.village("o1400 g1400 k1400 s1400 c1400 p1400 o1400");
        long before = threads.getThreadAllocatedBytes(thread);
        dearCalls(goose);
        long made = threads.getThreadAllocatedBytes(thread) - before;
        Checks.due("bytes made by 460 calls, above 100000", made > 100000 ? made : 0, 0);
    }

    private static void dearCalls(GooseTrain goose) {
        for (int i = 0; i < 23; i++) {
            goose.lots(7, i + 1);
            goose.train(0);
            goose.part(0, 0);
            goose.part(1, 1);
            goose.room(7, 7);
            goose.mark(2, 5);
            goose.spoons();
            goose.orders();
            goose.came(1, 1);
            goose.ahead(0, 1);
            goose.nth(3, 1);
            goose.gold(99, 2);
            goose.tastes(2);
            goose.keep(i % 3);
            goose.on(i % 3);
            goose.village(0);
            goose.place(0, 7);
            goose.fun(0);
            goose.canLaugh();
            goose.digest();
        }
    }
}
