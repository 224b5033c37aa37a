import java.io.IOException;
import java.lang.management.ManagementFactory;
import java.lang.reflect.Constructor;
import java.lang.reflect.Field;
import java.lang.reflect.Method;
import java.lang.reflect.Modifier;
import java.nio.file.Files;
import java.nio.file.Path;
import java.util.Set;
import java.util.TreeSet;
import java.util.regex.Matcher;
import java.util.regex.Pattern;

/** The public face as the document writes it, and those rules of LANGUAGE.md that can be seen without a compiler. */
public final class FaceTest {
    private static final Path SOURCE = Path.of("src/main/java/GooseTrain.java");
    private static final Path DOCUMENT = Path.of("../shared/DOC.md");
    private static final String[] BANNED = {
        "throw", "throws", "try", "catch", "finally", "synchronized", "assert", "protected", "volatile", "transient",
        "native", "var", "package", "Object", "Exception", "hashCode", "System\\.out", "\\w+Exact", "->", "::",
        "double", "float", "static \\{"
    };

    public static void main(String[] args) throws IOException {
        face();
        banned();
        methodLengths();
        roomOfCalls();
        Checks.end("FaceTest");
    }

    private static void face() throws IOException {
        Set<String> want = new TreeSet<>();
        Matcher m = Pattern.compile("    public (int|long) (\\w+)\\(([^)]*)\\);").matcher(Files.readString(DOCUMENT));
        while (m.find()) {
            int parameters = m.group(3).isEmpty() ? 0 : m.group(3).split(",").length;
            want.add(m.group(1) + " " + m.group(2) + " " + parameters);
        }
        Set<String> got = new TreeSet<>();
        Set<String> names = new TreeSet<>();
        for (Method method : GooseTrain.class.getDeclaredMethods()) {
            if (Modifier.isPublic(method.getModifiers())) {
                got.add(method.getReturnType() + " " + method.getName() + " " + method.getParameterCount());
                names.add(method.getName());
            } else if (!Modifier.isPrivate(method.getModifiers())) {
                Checks.fail("not private: " + method);
            }
        }
        if (!got.equals(want)) {
            Checks.fail("the face is " + got + ", due is " + want);
        }
        fields();
        privateNames(GooseTrain.class, names);
        for (Class<?> inside : GooseTrain.class.getDeclaredClasses()) {
            privateNames(inside, names);
        }
        for (Constructor<?> c : GooseTrain.class.getDeclaredConstructors()) {
            Checks.due("constructor's parameters", c.getParameterCount(), 0);
        }
        Checks.due("final", Modifier.isFinal(GooseTrain.class.getModifiers()) ? 1 : 0, 1);
        Checks.due("classes", GooseTrain.class.getDeclaredClasses().length < 12 ? 1 : 0, 1);
    }

    private static void fields() {
        Set<String> constants = new TreeSet<>();
        for (Field field : GooseTrain.class.getDeclaredFields()) {
            if (Modifier.isPublic(field.getModifiers())) {
                constants.add(field.getName());
            } else if (!Modifier.isPrivate(field.getModifiers())) {
                Checks.fail("not private: " + field);
            }
        }
        if (!constants.equals(Set.of("BAD", "FULL", "FINDING", "STATE", "SPENT", "NONE"))) {
            Checks.fail("the constants are " + constants);
        }
        Checks.due("SPENT", GooseTrain.SPENT, -6);
    }

    private static void privateNames(Class<?> of, Set<String> publicNames) {
        for (Method method : of.getDeclaredMethods()) {
            if (!Modifier.isPublic(method.getModifiers()) && publicNames.contains(method.getName())) {
                Checks.fail("bears a public one's name: " + method);
            }
            if (method.getParameterCount() > 7) {
                Checks.fail("more than seven parameters: " + method);
            }
        }
        for (Field field : of.getDeclaredFields()) {
            if (Modifier.isStatic(field.getModifiers()) && !Modifier.isFinal(field.getModifiers())) {
                Checks.fail("static, not final: " + field);
            }
        }
    }

    private static void banned() throws IOException {
        String code = Files.readString(SOURCE).replaceAll("(?s)/\\*.*?\\*/", "").replaceAll("//[^\n]*", "");
        for (String word : BANNED) {
            String wordAlone = Character.isLetter(word.charAt(0)) ? "\\b" + word + "\\b" : word;
            if (Pattern.compile(wordAlone).matcher(code).find()) {
                Checks.fail("the language has no " + word);
            }
        }
        Matcher imports = Pattern.compile("import ([^;]*);").matcher(code);
        while (imports.find()) {
            if (!Set.of("java.util.Arrays", "java.util.ArrayList", "java.util.List").contains(imports.group(1))) {
                Checks.fail("the language has no " + imports.group(1));
            }
        }
    }

    private static void methodLengths() throws IOException {
        int start = 0;
        int number = 0;
        for (String line : Files.readAllLines(SOURCE)) {
            number++;
            if (line.matches("(    |        )(?!if |for |while |switch )[a-zA-Z].*\\) \\{")) {
                start = number;
            }
            // An end that is a class's own stands close behind its last method's.
            if (line.matches("(    |        )\\}") && number - start > 60) {
                Checks.fail("a long method ends at line " + number);
            }
        }
    }

    /** All calls of a run live in one room: the calls make nothing, all stands from the constructor on. */
    private static void roomOfCalls() {
        if (!(ManagementFactory.getThreadMXBean() instanceof com.sun.management.ThreadMXBean)) {
            return;
        }
        com.sun.management.ThreadMXBean threads = (com.sun.management.ThreadMXBean) ManagementFactory.getThreadMXBean();
        if (!threads.isThreadAllocatedMemorySupported()) {
            return;
        }
        long thread = Thread.currentThread().getId();
        dearCalls(Checks.village("o1400 g1400 k1400 s1400 c1400 p1400 o1400"));
        GooseTrain goose = Checks.village("o1400 g1400 k1400 s1400 c1400 p1400 o1400");
        long before = threads.getThreadAllocatedBytes(thread);
        dearCalls(goose);
        long made = threads.getThreadAllocatedBytes(thread) - before;
        Checks.due("bytes made by 500 calls, above 100000", made > 100000 ? made : 0, 0);
    }

    private static void dearCalls(GooseTrain goose) {
        for (int i = 0; i < 25; i++) {
            goose.lots(7, i + 1);
            goose.train(0);
            goose.part(0, 0);
            goose.part(1, 1);
            goose.room(7, 7);
            goose.mark(2, 5);
            goose.spoons();
            goose.orders();
            goose.came(1, 1);
            goose.ahead(0, 1);
            goose.nth(3, 1);
            goose.gold(99, 2);
            goose.tastes(2);
            goose.keep(i % 3);
            goose.on(i % 3);
            goose.village(0);
            goose.place(0, 7);
            goose.fun(0);
            goose.canLaugh();
            goose.digest();
        }
    }
}
