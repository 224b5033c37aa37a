import java.lang.reflect.Method;
import java.util.List;

/** Every call with every mixture of numbers at the edges of ranges, in several settings, on the class and the model. */
public final class EdgesTest {
    private static final int MOST = Integer.MAX_VALUE, LEAST = Integer.MIN_VALUE, MOST_WRONG = 20;
    private static final int[] EDGES = {
        LEAST, -9, -1, 0, 1, 2, 3, 4, 5, 6, 7, 8, 9, 10, 39, 40, 41, 59, 60, 61, 99, 100, 400, 401, MOST - 1, MOST
    };
    /** For a call of five numbers. */
    private static final int[] FEW_EDGES = {LEAST, -1, 0, 1, 3, 4, 5, 6, 40, 41, MOST};
    private static final List<Method> CALLS = Twin.calls();
    private static final int SETTINGS = 6;
    /** Each is followed by five calls that look; with those of the setting, fewer than 512 in all. */
    private static final int CALLS_OF_ONE = 50;

    private final Object[] numbers;
    private final Method call;
    private final int setting;
    private Twin twin;
    private int start;
    private int called;

    private EdgesTest(Method call, int setting) throws ReflectiveOperationException {
        this.call = call;
        this.setting = setting;
        numbers = new Object[call.getParameterCount()];
        begin();
    }

    public static void main(String[] args) throws ReflectiveOperationException {
        for (int setting = 0; setting < SETTINGS; setting++) {
            for (Method call : CALLS) {
                new EdgesTest(call, setting).mixFrom(0);
            }
        }
        Checks.end("EdgesTest");
    }

    private void mixFrom(int place) throws ReflectiveOperationException {
        if (Checks.wrongSoFar() > MOST_WRONG) {
            return;
        }
        if (place == numbers.length) {
            callOnce();
            return;
        }
        for (int number : numbers.length > 3 ? FEW_EDGES : EDGES) {
            numbers[place] = number;
            mixFrom(place + 1);
        }
    }

    private void callOnce() throws ReflectiveOperationException {
        long answer = twin.call(call, numbers);
        twin.dueSameState();
        called++;
        if (answer >= 0 || called == CALLS_OF_ONE) {
            begin();
        } else {
            twin.forget(start);
        }
    }

    private void begin() throws ReflectiveOperationException {
        twin = new Twin();
        called = 0;
        switch (setting) {
            case 0:
                break;
            case 1:
                twin.settle(0, "  ");
                twin.call(Twin.named("row"), 0, 40);
                break;
            case 2:
                busy();
                break;
            case 3:
                twin.settle(3, "o1400 o1400 g1400 k1400 c1000");
                touch(0, 0, 9);
                for (int i = 1; i < 60; i++) {
                    twin.call(Twin.named("days"), i < 26 ? 400 : 0);
                }
                break;
            case 4:
                twin.settle(1, "k1000 g1000 o1000 p2365");
                touch(0, 1, 9);
                touch(1, 1, 0);
                touch(2, 0, 1);
                touch(3, 1, 1);
                break;
            default:
                twin.settle(2, "o1400 g1400 c1400");
                break;
        }
        start = twin.runLength();
    }

    private void busy() throws ReflectiveOperationException {
        twin.settle(0, "o3400 g2365 s2500 c1010 p2999 k4364 o1365");
        twin.call(Twin.named("row"), 0, 4);
        twin.call(Twin.named("lay"), 0, 0, 3);
        twin.call(Twin.named("lay"), 0, 1, 1);
        twin.call(Twin.named("row"), 1, 5);
        twin.call(Twin.named("row"), 4, 0);
        twin.call(Twin.named("text"), 3, 60);
        touch(0, 0, 9);
        touch(1, 1, 0);
        twin.call(Twin.named("keep"), 1);
        touch(5, 1, 0);
        touch(2, 0, 1);
        touch(6, 1, 9);
        twin.call(Twin.named("came"), 0, 0);
        twin.call(Twin.named("at"), 0, 0);
    }

    private void touch(int x, int hand, int y) throws ReflectiveOperationException {
        twin.call(Twin.named("touch"), x, hand, y);
    }
}
