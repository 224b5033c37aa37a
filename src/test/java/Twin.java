import java.lang.reflect.InvocationTargetException;
import java.lang.reflect.Method;
import java.lang.reflect.Modifier;
import java.util.ArrayList;
import java.util.Arrays;
import java.util.Comparator;
import java.util.List;

/** One object of the class and one of the model, which get the same calls and have to answer the same. */
final class Twin {
    /** For so many calls an object is used. */
    static final int MOST_CALLS = 512;
    private static final List<Method> CALLS = calls();

    private final GooseTrain goose = new GooseTrain();
    private final Model model = new Model();
    private final StringBuilder run = new StringBuilder();
    private int made = 0;

    /** The calls of the face, by their names. */
    static List<Method> calls() {
        List<Method> calls = new ArrayList<>();
        for (Method m : GooseTrain.class.getDeclaredMethods()) {
            if (Modifier.isPublic(m.getModifiers())) {
                calls.add(m);
            }
        }
        calls.sort(Comparator.comparing(Method::getName));
        return calls;
    }

    static Method named(String name) {
        for (Method call : CALLS) {
            if (call.getName().equals(name)) {
                return call;
            }
        }
        throw new IllegalArgumentException(name);
    }

    /** Answers what the class does; -1 if it threw. */
    long call(Method call, Object... numbers) throws ReflectiveOperationException {
        run.append(' ').append(call.getName()).append(Arrays.toString(numbers));
        Method other = Model.class.getDeclaredMethod(call.getName(), call.getParameterTypes());
        try {
            long got = ((Number) call.invoke(goose, numbers)).longValue();
            long want = ((Number) other.invoke(model, numbers)).longValue();
            dueSame(call.getName(), got, want);
            return got;
        } catch (InvocationTargetException e) {
            Checks.fail(run + " threw " + e.getCause());
            return -1;
        }
    }

    /** A TEXT in both, and a village by it. */
    void settle(int t, String text) {
        run.append(" village '").append(text).append("'");
        dueSame("text", goose.text(t, text.length()), model.text(t, text.length()));
        for (int i = 0; i < text.length(); i++) {
            dueSame("put", goose.put(t, i, text.charAt(i)), model.put(t, i, text.charAt(i)));
        }
        dueSame("fault", goose.fault(t), model.fault(t));
        dueSame("village", goose.village(t), model.village(t));
    }

    void dueSameState() {
        dueSame("asked", goose.asked(), model.asked());
        dueSame("upper", goose.upper(), model.upper());
        dueSame("lower", goose.lower(), model.lower());
        dueSame("finding", goose.finding(), model.finding());
        dueSame("digest", goose.digest(), model.digest());
    }

    void dueSameFindings() {
        for (int f = 1; f <= 5; f++) {
            dueSame("findings " + f, goose.findings(f), model.findings(f));
        }
    }

    int deeds() {
        return model.count(1);
    }

    /** How many calls more the document promises to answer. */
    int left() {
        return MOST_CALLS - made;
    }

    int latestFinding() {
        return model.finding();
    }

    /** Leaves out of what is told of a run the latest calls, from a length of it on. */
    void forget(int from) {
        run.setLength(from);
    }

    int runLength() {
        return run.length();
    }

    private void dueSame(String call, long got, long want) {
        made++;
        Checks.due(got == want ? "" : run + ": " + call, got, want);
    }
}
