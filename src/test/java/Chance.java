import java.lang.reflect.Method;
import java.util.List;
import java.util.Random;

/** Calls, numbers and villages by chance, always the same ones for a seed. */
final class Chance {
    private static final int[] ODD_NUMBERS = {
        -1, 8, 9, -9, 10, 40, 41, 60, 61, 99, 100, 400, 401, Integer.MAX_VALUE, Integer.MIN_VALUE, 2147483646
    };
    /** Calls that make a run go on are tried more often than one in all. */
    private static final String[] OFTEN = {
        "touch", "touch", "touch", "touch", "laugh", "days", "lay", "undo", "keep", "on", "lots", "mark"
    };

    private final Random random;
    private final List<Method> calls = Twin.calls();

    Chance(long seed) {
        random = new Random(seed);
    }

    boolean oneIn(int times) {
        return random.nextInt(times) == 0;
    }

    Method call() {
        if (random.nextInt(2) == 0) {
            return calls.get(random.nextInt(calls.size()));
        }
        String name = OFTEN[random.nextInt(OFTEN.length)];
        for (Method m : calls) {
            if (m.getName().equals(name)) {
                return m;
            }
        }
        return calls.get(0);
    }

    Object[] numbers(Method call, int deeds) {
        Object[] numbers = new Object[call.getParameterCount()];
        for (int i = 0; i < numbers.length; i++) {
            numbers[i] = number(call.getName(), i, deeds);
        }
        return numbers;
    }

    private int number(String call, int place, int deeds) {
        if (random.nextInt(40) == 0) {
            return ODD_NUMBERS[random.nextInt(ODD_NUMBERS.length)];
        }
        switch (call) {
            case "touch":
                return place == 1 ? random.nextInt(2) : place == 2 && random.nextInt(3) == 0 ? 9 : random.nextInt(7);
            case "hang":
                return random.nextInt(10);
            case "days":
                return random.nextInt(401);
            case "lots":
                return place == 0 ? 1 + random.nextInt(3) : 1 + random.nextInt(2147483646);
            case "gold":
                return place == 0 ? random.nextInt(100) : random.nextInt(6);
            case "nth":
                return place == 0 ? random.nextInt(40) : random.nextInt(6);
            case "undo":
                return random.nextInt(Math.max(1, deeds + 1));
            case "village":
                return random.nextInt(8) == 0 ? random.nextInt(4) : 3;
            case "text":
                return place == 0 ? random.nextInt(3) : random.nextInt(70) - 2;
            case "row":
                return place == 0 ? random.nextInt(6) : 2 * random.nextInt(4) + random.nextInt(8) / 7;
            case "put":
                return place == 0 ? random.nextInt(4) : place == 1 ? random.nextInt(60) : random.nextInt(300) - 150;
            case "tastes":
            case "sour":
            case "tear":
                return random.nextInt(6);
            case "lay":
                return place == 2 ? random.nextInt(3) * random.nextInt(2) : random.nextInt(6);
            default:
                return random.nextInt(7);
        }
    }

    /** A village as a TEXT, now and then with a FAULT; small, as the model looks at all that can be touched. */
    String people() {
        StringBuilder text = new StringBuilder();
        int people = random.nextInt(5) == 0 ? 6 + random.nextInt(3) : 1 + random.nextInt(5);
        for (int x = 0; x < people; x++) {
            text.append(" ".repeat(random.nextInt(3)));
            text.append("ogscpk".charAt(random.nextInt(6))).append(1 + random.nextInt(random.nextInt(8) + 1));
            int ago = random.nextInt(3) == 0 ? 360 + random.nextInt(10) : random.nextInt(1000);
            text.append(String.format("%03d", ago));
        }
        text.append(" ".repeat(random.nextInt(3)));
        text.setLength(Math.min(60, text.length()));
        if (random.nextInt(10) == 0) {
            text.setCharAt(random.nextInt(text.length()), "o09 8?".charAt(random.nextInt(6)));
        }
        if (random.nextInt(20) == 0) {
            text.setLength(random.nextInt(text.length()));
        }
        return text.toString();
    }
}
