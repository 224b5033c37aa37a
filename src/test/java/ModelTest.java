import java.lang.reflect.Method;

/** Runs of calls by chance on the class and on the model, which have to agree on all that is told behind each call. */
public final class ModelTest {
    private static final int RUNS = 3000, MOST_WRONG = 20;
    /** A village is settled by 63 calls at most; five look at what is told, and five more at the end. */
    private static final int DEAREST_STEP = 73;

    private final Chance chance;
    private final Twin twin = new Twin();

    private ModelTest(long seed) {
        chance = new Chance(seed);
    }

    public static void main(String[] args) throws ReflectiveOperationException {
        for (int seed = 0; seed < RUNS && Checks.wrongSoFar() < MOST_WRONG; seed++) {
            new ModelTest(seed).go();
        }
        Checks.end("ModelTest");
    }

    private void go() throws ReflectiveOperationException {
        if (!chance.oneIn(20)) {
            twin.settle(3, chance.people());
        }
        int before = Checks.wrongSoFar();
        while (twin.left() >= DEAREST_STEP && Checks.wrongSoFar() == before) {
            if (chance.oneIn(100)) {
                twin.settle(3, chance.people());
            } else {
                Method call = chance.call();
                twin.call(call, chance.numbers(call, twin.deeds()));
            }
            twin.dueSameState();
        }
        twin.dueSameFindings();
    }
}
