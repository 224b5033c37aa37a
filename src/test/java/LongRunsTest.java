import java.lang.reflect.Method;
import java.util.Set;
import java.util.TreeSet;

/** Runs of 512 calls by chance on one object, as many as the document promises, against the model. */
public final class LongRunsTest {
    private static final int RUNS = 1000, MOST_WRONG = 20;
    /** A village is settled by 63 calls at most; then seven look at the end. */
    private static final int SETTLING = 63, LOOKS_AT_END = 10;
    /** What leads back to fewer DEEDS; every other run has little of it, to come to 60 DEEDS and to late DAYS. */
    private static final Set<String> LEADING_BACK = Set.of("undo", "on", "village", "put", "text");
    /** What each call can answer by the document, refusals and other answers: all of it has to come up. */
    private static final String[] DUE = {
        "row BAD SIZE told", "lay BAD NOTHING BEYOND told", "at BAD NOTHING BEYOND told", "tear BAD NOTHING told",
        "copy BAD SIZE NOTHING BEYOND told", "mean BAD NOTHING NOUGHT told", "text BAD SIZE told",
        "put BAD NOTHING BEYOND told", "fault BAD NOTHING NONE told", "village BAD NOTHING STATE told",
        "person BAD told", "mark BAD UNLIKE told", "taste BAD told", "touch BAD STATE FULL told",
        "laugh BAD STATE FULL told", "days BAD STATE FULL told", "undo BAD told", "stuck told", "canLaugh told",
        "hang BAD told", "train BAD told", "keep BAD STATE told", "on BAD NOTHING told", "door BAD NONE told",
        "stairs BAD told", "part BAD told", "room BAD told", "place BAD NONE told", "fun BAD STATE NONE told",
        "jester NONE told", "ways told", "feed BAD STATE NONE told", "spoons told", "orders told",
        "came BAD NOUGHT told", "ahead BAD told", "nth BAD NOUGHT told", "gold BAD told",
        "tastes BAD NOTHING SIZE UNLIKE told", "sour BAD NOTHING SIZE UNLIKE told", "lots BAD STATE FULL told",
        "asked told", "upper told", "lower told", "count BAD told", "finding told", "findings BAD told", "digest told"
    };
    private static final String[] FINDING_NAMES = {"", "NOTHING", "BEYOND", "UNLIKE", "NOUGHT", "SIZE"};
    /** These tell any number, or one that a refusal has, too. */
    private static final Set<String> TELLERS = Set.of("asked", "upper", "lower", "digest");

    private final Set<String> seen;
    private final Chance chance;
    private final boolean goesOn;
    private final Twin twin = new Twin();

    private LongRunsTest(long seed, Set<String> seen) {
        this.seen = seen;
        chance = new Chance(-1 - seed);
        goesOn = seed % 2 != 0;
    }

    public static void main(String[] args) throws ReflectiveOperationException {
        Set<String> seen = new TreeSet<>();
        for (int seed = 0; seed < RUNS && Checks.wrongSoFar() < MOST_WRONG; seed++) {
            new LongRunsTest(seed, seen).go();
        }
        for (String answers : DUE) {
            dueAnswers(answers.split(" "), seen);
        }
        for (String answer : seen) {
            Checks.fail("the document has no such answer: " + answer);
        }
        Checks.end("LongRunsTest");
    }

    /** Takes out what was due. */
    private static void dueAnswers(String[] answers, Set<String> seen) {
        for (int i = 1; i < answers.length; i++) {
            String answer = answers[0] + " " + answers[i];
            Checks.due("came up: " + answer, seen.remove(answer) ? 1 : 0, 1);
        }
    }

    private void go() throws ReflectiveOperationException {
        int before = Checks.wrongSoFar();
        if (!chance.oneIn(10)) {
            twin.settle(3, chance.people());
        }
        while (twin.left() > LOOKS_AT_END && Checks.wrongSoFar() == before) {
            if (chance.oneIn(goesOn ? 2000 : 150) && twin.left() >= SETTLING + LOOKS_AT_END) {
                twin.settle(3, chance.people());
            } else {
                callOne(chance.call());
            }
        }
        twin.dueSameState();
        twin.dueSameFindings();
        if (Checks.wrongSoFar() == before) {
            Checks.due("calls that are left", twin.left(), 0);
        }
    }

    private void callOne(Method call) throws ReflectiveOperationException {
        if (goesOn && LEADING_BACK.contains(call.getName()) && !chance.oneIn(20)) {
            return;
        }
        long answer = twin.call(call, chance.numbers(call, twin.deeds()));
        seen.add(call.getName() + " " + nameOf(call.getName(), answer));
    }

    private String nameOf(String call, long answer) {
        if (answer >= 0 || TELLERS.contains(call)) {
            return "told";
        }
        switch ((int) answer) {
            case GooseTrain.BAD:
                return "BAD";
            case GooseTrain.FULL:
                return "FULL";
            case GooseTrain.FINDING:
                return FINDING_NAMES[twin.latestFinding()];
            case GooseTrain.STATE:
                return "STATE";
            case GooseTrain.NONE:
                return "NONE";
            default:
                return "answered " + answer;
        }
    }
}
