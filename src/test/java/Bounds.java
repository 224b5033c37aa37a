import java.util.ArrayList;
import java.util.List;

/** What the tests of boundaries share: objects to begin from, and that a call leaves all as it was. */
final class Bounds {
    static final int BAD = -1, FULL = -2, FINDING = -3, STATE = -4, NONE = -9, GOOSE = 9;
    static final int NOTHING = 1, BEYOND = 2, UNLIKE = 3, NOUGHT = 4, SIZE = 5;
    static final int MOST = Integer.MAX_VALUE, LEAST = Integer.MIN_VALUE;
    static final String SEVEN = "o3400 g2365 s2500 c1010 p2999 k4364 o1365";
    static final String SEVEN_ONES = "o1400o1400o1400o1400o1400o1400o1400";
    private static final int[] OUTSIDE_ALL = {LEAST, -2147483647, -10, -9, -2, -1, MOST - 1, MOST};

    /** Makes an object, the same one each time. */
    interface Setting {
        GooseTrain make();
    }

    interface Call {
        int on(GooseTrain goose);
    }

    /** A call by one of its numbers. */
    interface NumberCall {
        int on(GooseTrain goose, int number);
    }

    private Bounds() {
    }

    static void due(String call, long got, long want) {
        Checks.due(call, got, want);
    }

    /** An object that has some of all: ROWS 0, 1, 5, TEXTS 0, 1, 3, a train, DEEDS, kept VILLAGES 0 and 2. */
    static GooseTrain busy() {
        GooseTrain g = village(SEVEN);
        Checks.write(g, 1, "o1x");
        g.text(3, 60);
        row(g, 0, 3, 1, 2, 0);
        g.row(1, 0);
        g.row(5, 40);
        Checks.touches(g, "009 110");
        g.keep(0);
        g.days(5);
        g.taste(2, 5);
        Checks.touches(g, "510");
        g.keep(2);
        Checks.touches(g, "201 619");
        g.at(4, 0);
        g.row(0, -1);
        g.came(0, 0);
        g.at(0, 2);
        return g;
    }

    static GooseTrain village(String text) {
        return Checks.village(text);
    }

    static GooseTrain train(String text, String touches) {
        GooseTrain g = Checks.village(text);
        Checks.touches(g, touches);
        return g;
    }

    /** A village in which so many DEEDS have been done: 0 HANGS ON THE GOOSE, then days of none go by. */
    static GooseTrain worn(int deeds) {
        GooseTrain g = train("o1400 o1400 g1400 k1400 c1000", "009");
        Checks.wear(g, deeds);
        return g;
    }

    static GooseTrain row(GooseTrain g, int r, int... cells) {
        g.row(r, cells.length);
        for (int i = 0; i < cells.length; i++) {
            g.lay(r, i, cells[i]);
        }
        return g;
    }

    static GooseTrain withRow(int... cells) {
        return row(new GooseTrain(), 0, cells);
    }

    static int told(GooseTrain g, int answer) {
        due("it tells", answer, 1);
        return g.asked();
    }

    static int fact(GooseTrain g, int x, int what) {
        return told(g, g.person(x, what));
    }

    /** Answers so, and leaves all as it was: for a call that is refused without a FINDING, or only looks. */
    static void leaves(int want, Setting setting, Call call) {
        GooseTrain one = setting.make();
        GooseTrain other = setting.make();
        due("answer", call.on(one), want);
        due("finding() as it was", one.finding(), other.finding());
        dueFindings(one, other, 0);
        dueSame(one, other);
    }

    /** The FINDING is answered and counted once, and nothing else changes. */
    static void finds(int finding, Setting setting, Call call) {
        GooseTrain one = setting.make();
        GooseTrain other = setting.make();
        due("answer", call.on(one), FINDING);
        due("finding()", one.finding(), finding);
        dueFindings(one, other, finding);
        dueSame(one, other);
    }

    /** BAD are the numbers just outside of a range, and those far from it; and nothing changes. */
    static void badOutside(int from, int to, Setting setting, NumberCall call) {
        leaves(BAD, setting, g -> call.on(g, from - 1));
        leaves(BAD, setting, g -> call.on(g, to + 1));
        for (int number : OUTSIDE_ALL) {
            if (number < from || number > to) {
                leaves(BAD, setting, g -> call.on(g, number));
            }
        }
    }

    static void neverBad(int from, int to, Setting setting, NumberCall call) {
        for (int number = from; number <= to; number++) {
            due("BAD for " + number, call.on(setting.make(), number) == BAD ? 1 : 0, 0);
        }
    }

    private static void dueFindings(GooseTrain one, GooseTrain other, int oneMore) {
        for (int f = NOTHING; f <= SIZE; f++) {
            due("findings(" + f + ")", one.findings(f), other.findings(f) + (f == oneMore ? 1 : 0));
        }
    }

    private static void dueSame(GooseTrain one, GooseTrain other) {
        List<Long> got = sounding(one);
        List<Long> want = sounding(other);
        due("all else as it was", got.equals(want) ? 1 : 0, 1);
    }

    /** All that an object can tell of its state, what its DEEDS and kept VILLAGES are, too; uses it up. */
    private static List<Long> sounding(GooseTrain g) {
        List<Long> out = new ArrayList<>();
        out.add((long) g.asked());
        out.add(g.upper());
        out.add(g.lower());
        out.add(g.digest());
        unwind(g, out);
        for (int k = 0; k < 3; k++) {
            out.add((long) g.on(k));
            out.add(g.digest());
            unwind(g, out);
        }
        return out;
    }

    private static void unwind(GooseTrain g, List<Long> out) {
        int step = Math.max(1, g.count(1) / 12);
        for (int n = g.count(1); n >= 0; n -= step) {
            out.add((long) g.undo(n));
            out.add(g.digest());
        }
        out.add((long) g.undo(0));
        out.add(g.digest());
    }
}
