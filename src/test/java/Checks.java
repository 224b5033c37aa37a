/** What the tests share: counting wrong answers, and villages written as plain text. */
final class Checks {
    private static int wrong = 0;
    private static int asked = 0;
    private static String test = "";

    private Checks() {
    }

    /** Names the test that the next answers belong to. */
    static void inTest(String name) {
        test = name + ": ";
    }

    static void due(String call, long got, long want) {
        asked++;
        if (got != want) {
            wrong++;
            System.out.println(test + call + " answered " + got + ", due is " + want);
        }
    }

    static void fail(String what) {
        wrong++;
        System.out.println(test + what);
    }

    static int wrongSoFar() {
        return wrong;
    }

    static void end(String name) {
        System.out.println(name + ": " + asked + " answers, " + wrong + " wrong");
        if (wrong != 0) {
            System.exit(1);
        }
    }

    static void write(GooseTrain goose, int t, String text) {
        goose.text(t, text.length());
        for (int i = 0; i < text.length(); i++) {
            goose.put(t, i, text.charAt(i));
        }
    }

    static GooseTrain village(String text) {
        GooseTrain goose = new GooseTrain();
        write(goose, 0, text);
        goose.village(0);
        return goose;
    }

    /** Touches told as "x hand y" with blanks between the touches, such as "009 110". */
    static void touches(GooseTrain goose, String touches) {
        for (String touch : touches.split(" ")) {
            int got = goose.touch(touch.charAt(0) - '0', touch.charAt(1) - '0', touch.charAt(2) - '0');
            due("touch " + touch, got, 1);
        }
    }

    /** Days of none go by till so many DEEDS are done; a class that refuses them fails, and does not hang. */
    static void wear(GooseTrain goose, int deeds) {
        for (int i = 0; i < 60 && goose.count(1) < deeds; i++) {
            goose.days(0);
        }
        due("DEEDS", goose.count(1), deeds);
    }

    static void dueRow(GooseTrain goose, String call, int r, int... want) {
        for (int i = 0; i < want.length; i++) {
            due(call + ": at(" + r + ", " + i + ")", goose.at(r, i), 1);
            due(call + ": place " + i, goose.asked(), want[i]);
        }
        due(call + ": no place behind", goose.at(r, want.length), GooseTrain.FINDING);
        due(call + ": finding", goose.finding(), 2);
    }

    static void dueFraction(GooseTrain goose, String call, int got, long upper, long lower) {
        due(call, got, 1);
        due(call + ": upper", goose.upper(), upper);
        due(call + ": lower", goose.lower(), lower);
    }

    static void dueFinding(GooseTrain goose, String call, int got, int finding) {
        due(call, got, GooseTrain.FINDING);
        due(call + ": finding", goose.finding(), finding);
    }
}
