import java.io.IOException;
import java.lang.reflect.InvocationTargetException;
import java.lang.reflect.Method;
import java.nio.file.Files;
import java.nio.file.Path;
import java.util.Arrays;
import java.util.Comparator;
import java.util.Set;
import java.util.TreeSet;
import java.util.regex.Matcher;
import java.util.regex.Pattern;

/** Runs each test of a boundary: one of its own for each sentence of the document, named after its promise. */
public final class BoundsTest {
    private static final Path DOCUMENT = Path.of("../shared/DOC.md");
    private static final Class<?>[] TESTS = {
        BoundsOfTerms.class, BoundsOfRows.class, BoundsOfVillages.class, BoundsOfDeeds.class, BoundsOfTrains.class,
        BoundsOfOrders.class, BoundsOfTold.class
    };

    public static void main(String[] args) throws IOException {
        Set<Integer> tested = new TreeSet<>();
        for (Class<?> tests : TESTS) {
            Method[] methods = tests.getDeclaredMethods();
            Arrays.sort(methods, Comparator.comparing(Method::getName));
            for (Method method : methods) {
                if (method.getName().matches("(promise\\d\\d|terms)_\\w+")) {
                    runOne(method);
                    tested.add(numberOf(method.getName()));
                }
            }
        }
        Checks.inTest("BoundsTest");
        eachPromiseHasOne(tested);
        Checks.end("BoundsTest");
    }

    private static void runOne(Method method) {
        Checks.inTest(method.getName());
        try {
            method.invoke(null);
        } catch (InvocationTargetException e) {
            Checks.fail("threw " + e.getCause());
        } catch (IllegalAccessException e) {
            Checks.fail("can't be run");
        }
    }

    private static int numberOf(String name) {
        return name.startsWith("terms") ? 0 : Integer.parseInt(name.substring(7, 9));
    }

    private static void eachPromiseHasOne(Set<Integer> tested) throws IOException {
        Matcher m = Pattern.compile("(?m)^## Promise (\\d+):").matcher(Files.readString(DOCUMENT));
        int promises = 0;
        while (m.find()) {
            promises++;
            int number = Integer.parseInt(m.group(1));
            Checks.due("promise " + number + " has a test", tested.contains(number) ? 1 : 0, 1);
        }
        Checks.due("the document has promises", promises > 0 ? 1 : 0, 1);
    }
}
