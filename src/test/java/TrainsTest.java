import java.util.Random;

/** Every train that up to five people can make, with all that can be asked of it, against the model. */
public final class TrainsTest {
    private static final int MOST_WRONG = 20, GOOSE = 9, FREE = -1, MOST_PEOPLE = 5;
    private static final String LETTERS = "ogscpk";
    private final Random random;
    private final int[] holds;
    private final Twin twin = new Twin();

    private TrainsTest(int[] holds, long seed) {
        this.holds = holds;
        random = new Random(seed);
    }

    public static void main(String[] args) throws ReflectiveOperationException {
        for (int people = 1; people <= MOST_PEOPLE; people++) {
            hangFrom(0, new int[people]);
        }
        Checks.end("TrainsTest");
    }

    /** Each one in turn is free, on THE GOOSE, or on any other one; what then is no train is left out. */
    private static void hangFrom(int x, int[] holds) throws ReflectiveOperationException {
        if (x == holds.length) {
            if (isTrain(holds) && Checks.wrongSoFar() < MOST_WRONG) {
                new TrainsTest(holds, seedOf(holds)).go();
            }
            return;
        }
        for (int y = FREE; y <= holds.length; y++) {
            holds[x] = y == holds.length ? GOOSE : y;
            hangFrom(x + 1, holds);
        }
    }

    private static boolean isTrain(int[] holds) {
        for (int x = 0; x < holds.length; x++) {
            if (holds[x] != FREE && depth(holds, x) > holds.length) {
                return false;
            }
        }
        return true;
    }

    /** More than there are people, if the chain does not end at THE GOOSE. */
    private static int depth(int[] holds, int x) {
        int depth = 0;
        int y = x;
        while (y != GOOSE && depth <= holds.length) {
            depth++;
            y = y == FREE ? FREE : holds[y];
        }
        return depth;
    }

    private static long seedOf(int[] holds) {
        long seed = 1;
        for (int y : holds) {
            seed = 11 * seed + y + 1;
        }
        return seed;
    }

    private void go() throws ReflectiveOperationException {
        twin.settle(0, people());
        for (int depth = 1; depth <= holds.length; depth++) {
            for (int x = 0; x < holds.length; x++) {
                if (holds[x] != FREE && depth(holds, x) == depth) {
                    // Whom one holds by HAND 1 a GLOVED one holds, too.
                    call("touch", x, 1, holds[x]);
                }
            }
        }
        askOfTrain();
        for (int x = 0; x < holds.length; x++) {
            askOf(x);
        }
        askOrders();
        twin.dueSameState();
        if (twin.left() < 0) {
            Checks.fail("more calls than the document promises: " + -twin.left());
        }
    }

    private String people() {
        StringBuilder text = new StringBuilder();
        for (int x = 0; x < holds.length; x++) {
            text.append(LETTERS.charAt(random.nextInt(LETTERS.length()))).append(1 + random.nextInt(5));
            text.append(364 + random.nextInt(3));
        }
        return text.toString();
    }

    private void askOfTrain() throws ReflectiveOperationException {
        for (String name : new String[] {"stuck", "canLaugh", "ways", "jester", "asked", "spoons", "asked", "orders"}) {
            call(name);
        }
        for (int width = 0; width <= 6; width++) {
            call("door", width);
            call("stairs", width);
            for (int length = 0; length <= 6; length++) {
                call("part", width, length);
                call("asked");
                call("room", width, length);
            }
        }
        call("train", 0);
        call("gold", random.nextInt(10), 1);
        call("gold", random.nextInt(100), 2);
        call("hang", GOOSE);
    }

    private void askOf(int x) throws ReflectiveOperationException {
        call("hang", x);
        call("fun", x);
        for (int kind = 1; kind <= 5; kind++) {
            call("mark", x, kind);
        }
        for (int depth = 1; depth <= 6; depth++) {
            call("place", x, depth);
        }
        for (int y = 0; y < holds.length; y++) {
            call("feed", x, y);
            askFraction("ahead", x, y);
            askFraction("came", x, y);
        }
    }

    private void askFraction(String name, int x, int y) throws ReflectiveOperationException {
        if (call(name, x, y) == 1) {
            call("upper");
            call("lower");
        }
    }

    /** Orders from a number on, the last ones too, as far as there are calls. */
    private void askOrders() throws ReflectiveOperationException {
        call("orders");
        int all = (int) call("upper");
        for (int i = 0; i < 6; i++) {
            call("nth", random.nextInt(all), i % 6);
        }
        call("digest");
        call("nth", all - 1, 3);
        call("nth", all, 4);
    }

    private long call(String name, Object... numbers) throws ReflectiveOperationException {
        return twin.call(Twin.named(name), numbers);
    }
}
