import java.io.IOException;
import java.nio.file.Files;
import java.nio.file.Path;
import java.util.List;

/** Holds the class against ../shared/LANGUAGE.md; small sources that break a rule show that the looking finds it. */
public final class LanguageTest {
    private static final Path SOURCE = Path.of("src/main/java/GooseTrain.java");
    /** Each with the number of the rule that it breaks; it stands inside the class. */
    private static final String[][] WRONG = {
        {"1", "int seen;"},
        {"1", "void seen() { }"},
        {"1", "protected static int seen(int n) { return n; }"},
        {"1", "public int twice() { return 2; } private static int twice(int n) { return 2 * n; }"},
        {"1", "public static final class Seen { }"},
        {"2", "class Inner { }"},
        {"2", "private static int local() { class Local { int n = 1; } return new Local().n; }"},
        {"2", "interface Shape { int size(); } private static Shape one() { return () -> 1; }"},
        {"2", "interface Shape { int size(int n); } private static Shape one() { return Math::abs; }"},
        {"2", "interface Shape { } private static Shape one() { return new Shape() { }; }"},
        {"3", "private final Object any = null;"},
        {"3", "private final int[][][] cube = null;"},
        {"3", "private final String[] texts = null;"},
        {"3", "private final java.util.HashMap<Integer, Integer> map = null;"},
        {"3", "private final java.util.ArrayList<String> texts = null;"},
        {"4", "private static void say() { System.out.println(); }"},
        {"4", "private static int sum(int a, int b) { return Math.addExact(a, b); }"},
        {"4", "private static int most() { return Integer.MAX_VALUE; }"},
        {"4", "private static int read(String s) { return Integer.parseInt(s); }"},
        {"4", "private static long now() { return System.nanoTime(); }"},
        {"4", "private static String sign() { return \"\\u00e9\"; }"},
        {"4", "private static void sort(int[] row) { java.util.Arrays.sort(row); }"},
        {"5", "private static int state = 0;"},
        {"5", "private static final int[] ROW = new int[3].clone();"},
        {"5", "private static final int N; static { N = 1; }"},
        {"6", "private static int stop() { throw new IllegalArgumentException(); }"},
        {"6", "private static int guard() { try { return 1; } finally { } }"},
        {"6", "private static void both(int[] row) { synchronized (row) { } }"},
        {"6", "private static void sure(int n) { assert n > 0; }"},
        {"6", "private static boolean same(String a, String b) { return a == b; }"},
        {"6", "static final class Coin { public int hashCode() { return 1; } }"},
        {"8", "private static int down(int n) { return n <= 0 ? 0 : down(n - 1); }"},
        {"8", "private static int a(int n) { return b(n); } private static int b(int n) { return n > 0 ? 0 : a(n); }"},
        {"9", "private static int wait(int n) { int i = n; while (i > 0) { i--; } return i; }"},
        {"9", "private static int wait(int n) { for (int i = n; i != 0; i--) { } return 0; }"},
        {"9", "private static int wait(int n) { for (int i = n; i < 9;) { i++; } return 0; }"},
        {"10", "private static String join(String a, int n) { return a + n; }"},
        {"11", "private static void many(int a, int b, int c, int d, int e, int f, int g, int h) { }"},
        {"11", "private static void tall() {" + "\n".repeat(60) + "}"},
    };
    private static final String[] RIGHT = {
        "private static int down(int n, int depth) { return depth > 40 ? 0 : down(n - 1, depth + 1); }",
        "private final int[][] square = new int[2][2]; private static final int[] ROW = {1, 2};",
        "private static int most(int[] row) { int[] own = row.clone(); return Math.max(own.length, 3); }",
    };

    public static void main(String[] args) throws IOException {
        for (String one : Rules.brokenIn(Files.readString(SOURCE))) {
            Checks.fail(one);
        }
        for (String[] wrong : WRONG) {
            List<String> found = Rules.brokenIn(inClass(wrong[1]));
            boolean seen = found.stream().anyMatch(one -> one.startsWith("rule " + wrong[0] + ","));
            Checks.due("rule " + wrong[0] + " by " + wrong[1] + " found " + found, seen ? 1 : 0, 1);
        }
        Checks.due("rule 11 by a long chain", Rules.brokenIn(inClass(chain(9))).size(), 1);
        Checks.due("a chain of eight", Rules.brokenIn(inClass(chain(8))).size(), 0);
        Checks.due("rule 11 by fields", Rules.brokenIn(inClass(fields(21))).size(), 1);
        Checks.due("rule 11 by classes", Rules.brokenIn(inClass(classes(12))).size(), 1);
        for (String right : RIGHT) {
            Checks.due("breaks of " + right, Rules.brokenIn(inClass(right)).size(), 0);
        }
        Checks.end("LanguageTest");
    }

    private static String inClass(String members) {
        return "public final class GooseTrain { " + members + " }";
    }

    private static String chain(int methods) {
        StringBuilder members = new StringBuilder();
        for (int i = 1; i < methods; i++) {
            members.append("private static int m" + i + "(int n) { return m" + (i + 1) + "(n); } ");
        }
        return members.append("private static int m" + methods + "(int n) { return n; }").toString();
    }

    private static String fields(int number) {
        StringBuilder members = new StringBuilder();
        for (int i = 0; i < number; i++) {
            members.append("private final int f" + i + " = 1; ");
        }
        return members.toString();
    }

    private static String classes(int number) {
        StringBuilder members = new StringBuilder();
        for (int i = 0; i < number; i++) {
            members.append("private static final class C" + i + " { } ");
        }
        return members.toString();
    }
}
