/** Each promise of the document by hand: ordinary inputs, the edges that it names, wrong inputs. */
public final class PromisesTest {
    private static final int BAD = -1, FULL = -2, STATE = -4, NONE = -9;
    private static final int NOTHING = 1, BEYOND = 2, UNLIKE = 3, NOUGHT = 4, SIZE = 5;
    private static final int MOST = Integer.MAX_VALUE, LEAST = Integer.MIN_VALUE;
    private static final String SEVEN = "o3400 g2365 s2500 c1010 p2999 k4364 o1365";
    /** 0 and 6 on THE GOOSE; 1 and 5 on 0; 2 on 1. */
    private static final String TRAIN = "009 110 510 201 619";

    public static void main(String[] args) {
        newObject();
        rows();
        copies();
        means();
        texts();
        faults();
        villages();
        persons();
        marks();
        tasteCalls();
        touching();
        laughing();
        daysGoBy();
        undoing();
        sets();
        trains();
        keeping();
        doorsAndStairs();
        parting();
        rooms();
        places();
        fun();
        jesters();
        ways();
        feeding();
        spoons();
        orders();
        odds();
        nth();
        gold();
        tastesThatFit();
        lots();
        askedAndFractions();
        counts();
        findings();
        digests();
        Checks.end("PromisesTest");
    }

    private static void due(String call, long got, long want) {
        Checks.due(call, got, want);
    }

    private static GooseTrain stuckTrain() {
        GooseTrain g = Checks.village(SEVEN);
        Checks.touches(g, TRAIN);
        return g;
    }

    // Promise 1
    private static void newObject() {
        GooseTrain g = new GooseTrain();
        for (int what = 0; what <= 8; what++) {
            due("new: count(" + what + ")", g.count(what), 0);
        }
        due("new: asked", g.asked(), 0);
        due("new: upper", g.upper(), 0);
        due("new: lower", g.lower(), 1);
        due("new: finding", g.finding(), 0);
        for (int r = 0; r < 6; r++) {
            Checks.dueFinding(g, "new: at", g.at(r, 0), NOTHING);
        }
        for (int t = 0; t < 4; t++) {
            Checks.dueFinding(g, "new: fault", g.fault(t), NOTHING);
        }
        due("new: person", g.person(0, 0), BAD);
        due("new: stuck", g.stuck(), 0);
        due("new: ways", g.ways(), 0);
    }

    // Promises 2 to 5
    private static void rows() {
        GooseTrain g = new GooseTrain();
        due("row 40", g.row(5, 40), 40);
        due("row 0", g.row(0, 0), 0);
        due("row 41", g.row(0, 41), BAD);
        due("row of none", g.row(6, 3), BAD);
        due("row -1", g.row(-1, -1), BAD);
        Checks.dueFinding(g, "row below 0", g.row(0, -1), SIZE);
        due("refused changes nothing", g.count(6), 2);

        due("lay", g.lay(5, 39, MOST), 1);
        due("lay told", g.asked(), 0);
        due("lay again", g.lay(5, 39, LEAST), 1);
        due("lay told what it was", g.asked(), MOST);
        due("at", g.at(5, 39), 1);
        due("at told", g.asked(), LEAST);
        due("lay of none", g.lay(6, 0, 1), BAD);
        due("at of none", g.at(-1, 0), BAD);
        Checks.dueFinding(g, "lay on a missing row", g.lay(1, 0, 1), NOTHING);
        Checks.dueFinding(g, "lay behind", g.lay(5, 40, 1), BEYOND);
        Checks.dueFinding(g, "lay ahead", g.lay(5, -1, 1), BEYOND);
        Checks.dueFinding(g, "at of a missing row", g.at(1, 0), NOTHING);
        Checks.dueFinding(g, "at of an empty row", g.at(0, 0), BEYOND);
        Checks.dueFinding(g, "at far behind", g.at(5, MOST), BEYOND);
        Checks.dueFinding(g, "at far ahead", g.at(5, LEAST), BEYOND);
        due("refused leaves asked", g.asked(), LEAST);

        due("row anew", g.row(5, 40), 40);
        due("anew all 0", g.at(5, 39), 1);
        due("anew told 0", g.asked(), 0);
        due("tear", g.tear(5), 1);
        Checks.dueFinding(g, "tear again", g.tear(5), NOTHING);
        due("tear of none", g.tear(6), BAD);
        due("one row left", g.count(6), 1);
    }

    // Promise 6
    private static void copies() {
        GooseTrain g = new GooseTrain();
        g.row(0, 5);
        for (int i = 0; i < 5; i++) {
            g.lay(0, i, i + 1);
        }
        due("copy within, on", g.copy(0, 0, 0, 1, 4), 1);
        Checks.dueRow(g, "copy on", 0, 1, 1, 2, 3, 4);
        due("copy within, back", g.copy(0, 1, 0, 0, 4), 1);
        Checks.dueRow(g, "copy back", 0, 1, 2, 3, 4, 4);
        g.row(1, 2);
        due("copy to another", g.copy(0, 3, 1, 0, 2), 1);
        Checks.dueRow(g, "copy to another", 1, 4, 4);
        due("copy none at the end", g.copy(0, 5, 1, 2, 0), 1);
        Checks.dueFinding(g, "copy none behind the end", g.copy(0, 6, 1, 0, 0), BEYOND);
        Checks.dueFinding(g, "copy none to behind the end", g.copy(0, 0, 1, 3, 0), BEYOND);
        Checks.dueFinding(g, "copy from ahead", g.copy(0, -1, 1, 0, 1), BEYOND);
        Checks.dueFinding(g, "copy to ahead", g.copy(0, 0, 1, -1, 1), BEYOND);
        Checks.dueFinding(g, "copy too many", g.copy(0, 4, 1, 0, 2), BEYOND);
        Checks.dueFinding(g, "copy to too few", g.copy(0, 0, 1, 1, 2), BEYOND);
        Checks.dueFinding(g, "copy wraps around", g.copy(0, MOST, 1, 0, MOST), BEYOND);
        Checks.dueFinding(g, "copy fewer than none", g.copy(2, 0, 3, 0, -1), SIZE);
        Checks.dueFinding(g, "copy from a missing one", g.copy(2, 0, 0, 0, 9), NOTHING);
        Checks.dueFinding(g, "copy to a missing one", g.copy(0, 0, 2, 0, 9), NOTHING);
        due("copy from none", g.copy(6, 0, 0, 0, -1), BAD);
        due("copy to none", g.copy(0, 0, -1, 0, -1), BAD);
    }

    // Promise 7
    private static void means() {
        GooseTrain g = new GooseTrain();
        g.row(0, 2);
        g.lay(0, 0, -3);
        due("mean", g.mean(0), 1);
        due("mean is cut towards 0", g.asked(), -1);
        g.lay(0, 0, MOST);
        g.lay(0, 1, MOST);
        due("mean of the most", g.mean(0), 1);
        due("mean does not wrap", g.asked(), MOST);
        g.row(1, 0);
        Checks.dueFinding(g, "mean of none", g.mean(1), NOUGHT);
        Checks.dueFinding(g, "mean of a missing one", g.mean(2), NOTHING);
        due("mean of no row", g.mean(6), BAD);
        due("mean refused leaves asked", g.asked(), MOST);
    }

    // Promises 8 and 9
    private static void texts() {
        GooseTrain g = new GooseTrain();
        due("text 60", g.text(3, 60), 60);
        due("text 0", g.text(0, 0), 0);
        due("text 61", g.text(0, 61), BAD);
        due("text of none", g.text(4, 1), BAD);
        due("text ahead", g.text(-1, -1), BAD);
        Checks.dueFinding(g, "text below 0", g.text(0, -1), SIZE);
        due("put on a blank", g.put(3, 59, 200), 1032);
        due("put on 200, cut", g.put(3, 59, 256 + 65), 944);
        due("put on 65", g.put(3, 59, -128), 1065);
        due("put on -128", g.put(3, 59, 0), 872);
        due("put leaves asked", g.asked(), 0);
        due("put of none", g.put(4, 0, 0), BAD);
        Checks.dueFinding(g, "put on a missing one", g.put(1, 0, 0), NOTHING);
        Checks.dueFinding(g, "put behind", g.put(3, 60, 0), BEYOND);
        Checks.dueFinding(g, "put ahead", g.put(3, -1, 0), BEYOND);
        due("text anew", g.text(3, 60), 60);
        due("anew all blanks", g.put(3, 59, 1), 1032);
    }

    // Promise 10
    private static void faults() {
        GooseTrain g = new GooseTrain();
        dueFault("", NONE);
        dueFault("    ", NONE);
        dueFault("o1000", NONE);
        dueFault("  o8999   g1365s2364 ", NONE);
        dueFault("x1000", 0);
        dueFault("  O1000", 2);
        dueFault("o0000", 1);
        dueFault("o9000", 1);
        dueFault("o 100", 1);
        dueFault("o1a00", 2);
        dueFault("o10 0", 3);
        dueFault("o100:", 4);
        dueFault("o100/", 4);
        dueFault("o1000 ?", 6);
        dueFault("o", 1);
        dueFault(" o100", 5);
        dueFault("o1000o1000o1000o1000o1000o1000o1000", NONE);
        dueFault("o1000o1000o1000o1000o1000o1000o1000 ", NONE);
        dueFault("o1000o1000o1000o1000o1000o1000o1000  o", 37);
        dueFault("o1000o1000o1000o1000o1000o1000o1000k1000", 35);
        due("fault of none", g.fault(4), BAD);
        Checks.dueFinding(g, "fault of a missing one", g.fault(1), NOTHING);
    }

    private static void dueFault(String text, int want) {
        GooseTrain g = new GooseTrain();
        Checks.write(g, 2, text);
        due("fault of '" + text + "'", g.fault(2), want);
        due("village of '" + text + "'", g.village(2) == STATE ? 1 : 0, want == NONE ? 0 : 1);
    }

    // Promise 11
    private static void villages() {
        GooseTrain g = Checks.village("o1400 c1000");
        g.touch(0, 0, 9);
        g.days(7);
        g.keep(1);
        Checks.write(g, 1, "k");
        due("village with a fault", g.village(1), STATE);
        due("a fault changes nothing", g.count(1), 2);
        Checks.dueFinding(g, "village of a missing one", g.village(2), NOTHING);
        due("village of none", g.village(-1), BAD);
        due("village of none", g.village(4), BAD);
        due("kept before", g.count(8), 1);
        due("village anew", g.village(0), 2);
        due("anew: DEEDS", g.count(1), 0);
        due("anew: DAY", g.count(2), 0);
        due("anew: STUCK", g.count(3), 0);
        due("anew: kept", g.count(8), 0);
        Checks.dueFinding(g, "anew: on", g.on(1), NOTHING);
        Checks.write(g, 1, "  ");
        due("village without people", g.village(1), 0);
        due("without people", g.count(0), 0);
        due("without people, days", g.days(1), STATE);
    }

    // Promise 12
    private static void persons() {
        GooseTrain g = Checks.village("o3999 k1005");
        duePerson(g, 0, 0, 3, 999, NONE, NONE, 0);
        duePerson(g, 1, 5, 1, 5, NONE, NONE, 0);
        g.touch(1, 1, 9);
        g.touch(0, 0, 1);
        duePerson(g, 0, 0, 3, 999, 1, 0, 2);
        duePerson(g, 1, 5, 1, 5, 9, 1, 1);
        for (int i = 0; i < 24; i++) {
            g.days(400);
        }
        g.days(399);
        duePerson(g, 0, 0, 3, 9999, 1, 0, 2);
        duePerson(g, 1, 5, 1, 9999, 9, 1, 1);
        due("person 2", g.person(2, 0), BAD);
        due("person -1", g.person(-1, 0), BAD);
        due("person 9", g.person(9, 0), BAD);
        due("person what 6", g.person(0, 6), BAD);
        due("person what -1", g.person(0, -1), BAD);
        due("refused leaves asked", g.asked(), 1);
    }

    private static void duePerson(GooseTrain g, int x, int... want) {
        for (int what = 0; what < want.length; what++) {
            due("person(" + x + ", " + what + ")", g.person(x, what), 1);
            due("person(" + x + ", " + what + ") told", g.asked(), want[what]);
        }
    }

    // Promise 13
    private static void marks() {
        GooseTrain g = Checks.village("g1000 k1000 s2000 p2000 c1000 c1000 o1000");
        due("glove, free", g.mark(0, 1), 0);
        due("sour, nobody", g.mark(2, 2), 3);
        Checks.touches(g, "419 014 110 604 501");
        // 4 on the goose; 0 and 6 on 4; 1 on 0; 5 on 1
        due("glove, stuck", g.mark(0, 1), 1);
        due("cook as a glove", g.mark(1, 1), 1);
        due("sour, short by none", g.mark(2, 2), 0);
        due("princess as sour, by depth", g.mark(3, 2), 0);
        due("child", g.mark(4, 3), 2);
        due("another child tells the same", g.mark(5, 3), 2);
        due("princess", g.mark(3, 4), 4);
        due("cook: to 5 and 0, not by 0", g.mark(1, 5), 2);
        due("mark of no one", g.mark(7, 1), BAD);
        due("mark ahead", g.mark(-1, 1), BAD);
        due("mark of KIND 0", g.mark(6, 0), BAD);
        due("mark of KIND 6", g.mark(6, 6), BAD);
        due("mark of KIND -1", g.mark(6, -1), BAD);
        Checks.dueFinding(g, "a ONE is no glove", g.mark(6, 1), UNLIKE);
        Checks.dueFinding(g, "a glove is no cook", g.mark(0, 5), UNLIKE);
        Checks.dueFinding(g, "a sour one is no princess", g.mark(2, 4), UNLIKE);
        Checks.dueFinding(g, "a princess is no child", g.mark(3, 3), UNLIKE);

        GooseTrain h = Checks.village("p2000 s2000 o1000 o1000 k1000");
        Checks.touches(h, "209 309");
        due("princess as sour: depth 1 of 3", h.mark(0, 2), 2);
        due("sour: 2 of 3", h.mark(1, 2), 1);
        due("cook, free", h.mark(4, 5), 0);

        GooseTrain c = Checks.village("c1000 o1000 o1000 c1000");
        due("child, nobody", c.mark(0, 3), 0);
        Checks.touches(c, "009 100 200");
        due("on the first child", c.mark(0, 3), 2);
        due("on the first child, by another", c.mark(3, 3), 2);
    }

    // Promise 14
    private static void tasteCalls() {
        GooseTrain g = Checks.village("o1400 o1400");
        due("taste", g.taste(0, 8), 1);
        due("taste again", g.taste(0, 1), 8);
        due("taste 0", g.taste(0, 0), BAD);
        due("taste 9", g.taste(0, 9), BAD);
        due("taste of none", g.taste(2, 1), BAD);
        due("no deed", g.count(1), 0);
    }

    // Promise 15
    private static void touching() {
        GooseTrain g = Checks.village("o1400 g1400 k1400 s1400");
        due("touch a free one", g.touch(0, 0, 1), STATE);
        due("glove by hand 0", g.touch(1, 0, 9), 0);
        due("cook by hand 0", g.touch(2, 0, 9), 0);
        due("no deed by that", g.count(1), 0);
        due("glove by hand 1", g.touch(1, 1, 9), 1);
        due("stuck can't", g.touch(1, 1, 9), STATE);
        due("cook by hand 0 on one", g.touch(2, 0, 1), 0);
        due("by hand 0", g.touch(0, 0, 1), 1);
        due("oneself", g.touch(3, 0, 3), BAD);
        due("oneself, stuck", g.touch(0, 0, 0), BAD);
        due("hand 2", g.touch(3, 2, 9), BAD);
        due("hand -1", g.touch(3, -1, 9), BAD);
        due("whom 8", g.touch(3, 0, 8), BAD);
        due("whom 4", g.touch(3, 0, 4), BAD);
        due("whom -9", g.touch(3, 0, -9), BAD);
        due("who 4", g.touch(4, 0, 9), BAD);
        due("who 9", g.touch(9, 0, 9), BAD);
        Checks.wear(g, 60);
        due("full", g.touch(3, 0, 9), FULL);
        due("full, a glove by hand 0", g.touch(2, 0, 9), FULL);
        due("state ahead of full", g.touch(0, 0, 9), STATE);
        due("bad ahead of full", g.touch(3, 0, 3), BAD);
    }

    // Promise 16
    private static void laughing() {
        GooseTrain g = Checks.village("o2365 o2364 s1400 c8000 p1400 o1400");
        due("nobody stuck", g.laugh(3), STATE);
        g.touch(5, 0, 9);
        due("sight below the taste", g.laugh(0), STATE);
        due("sour, not more than the taste", g.laugh(2), STATE);
        due("child", g.laugh(3), 1);
        due("nobody stuck then", g.stuck(), 0);
        duePersonDays(g, 3, 0);
        g.touch(5, 0, 9);
        g.touch(3, 0, 9);
        due("a stuck child", g.canLaugh(), 1 + 4 + 8);
        due("364 days", g.laugh(1), STATE);
        due("a stuck one", g.laugh(5), STATE);
        due("of none", g.laugh(6), BAD);
        due("of the goose", g.laugh(9), BAD);
        due("princess by depth", g.laugh(4), STATE);
        due("a stuck child laughs", g.laugh(3), 2);
        g.touch(5, 0, 9);
        g.touch(3, 0, 5);
        g.days(3);
        due("princess", g.laugh(4), 2);
        duePersonDays(g, 4, 0);
        duePersonDays(g, 0, 368);
        g.touch(3, 0, 9);
        Checks.wear(g, 60);
        due("full", g.laugh(3), FULL);
        due("state ahead of full", g.laugh(4), STATE);
    }

    private static void duePersonDays(GooseTrain g, int x, int want) {
        due("person(" + x + ", 2)", g.person(x, 2), 1);
        due("person(" + x + ", 2) told", g.asked(), want);
    }

    // Promise 17
    private static void daysGoBy() {
        GooseTrain g = new GooseTrain();
        due("no people", g.days(0), STATE);
        due("bad ahead of state", g.days(-1), BAD);
        g = Checks.village("o1000");
        due("0 days", g.days(0), 0);
        due("0 days are a deed", g.count(1), 1);
        due("401 days", g.days(401), BAD);
        for (int i = 1; i <= 24; i++) {
            due("400 days", g.days(400), 400 * i);
        }
        due("above 9999", g.days(400), FULL);
        due("to 9999", g.days(399), 9999);
        due("above 9999 by 1", g.days(1), FULL);
        due("0 at 9999", g.days(0), 9999);
        Checks.wear(g, 60);
        due("60 deeds", g.days(0), FULL);
    }

    // Promise 18
    private static void undoing() {
        GooseTrain g = Checks.village("c1005 o3400 o3400");
        due("undo of none", g.undo(0), 0);
        due("undo below", g.undo(-1), BAD);
        due("undo above", g.undo(1), BAD);
        Checks.touches(g, "109 211");
        g.days(2);
        g.laugh(0);
        g.days(1);
        g.touch(0, 1, 9);
        g.taste(2, 7);
        due("undo the last", g.undo(5), 1);
        due("not stuck", g.stuck(), 0);
        due("undo the laugh", g.undo(3), 2);
        due("stuck again", g.stuck(), 6);
        due("the day", g.count(2), 2);
        duePersonDays(g, 0, 7);
        duePerson(g, 2, 0, 7, 402, 1, 1, 2);
        due("undo all", g.undo(0), 3);
        duePersonDays(g, 0, 5);
        due("taste stays", g.person(2, 1), 1);
        due("taste stays, told", g.asked(), 7);
        due("no deeds", g.count(1), 0);
        due("goes on", g.touch(2, 0, 9), 1);
    }

    // Promises 19 to 21
    private static void sets() {
        GooseTrain g = stuckTrain();
        due("stuck", g.stuck(), 103);
        due("hang 9", g.hang(9), 65);
        due("hang 0", g.hang(0), 34);
        due("hang 1", g.hang(1), 4);
        due("hang 4", g.hang(4), 0);
        due("hang 7", g.hang(7), BAD);
        due("hang 8", g.hang(8), BAD);
        due("hang -9", g.hang(-9), BAD);
        due("canLaugh", g.canLaugh(), 8 + 16);
        due("no people: hang 9", new GooseTrain().hang(9), 0);
        GooseTrain h = Checks.village("o1365 o1364 o2365 s1365 k1365 c8000");
        h.touch(5, 0, 9);
        due("canLaugh at sight 1", h.canLaugh(), 1 + 16 + 32);
    }

    // Promise 22
    private static void trains() {
        GooseTrain g = stuckTrain();
        due("train", g.train(3), 5);
        Checks.dueRow(g, "train", 3, 0, 1, 2, 5, 6);
        g = Checks.village("o1000 o1000 o1000 o1000");
        g.row(0, 9);
        due("nobody", g.train(0), 0);
        Checks.dueRow(g, "nobody", 0);
        Checks.touches(g, "309 203 102 001");
        due("a chain", g.train(0), 4);
        Checks.dueRow(g, "a chain", 0, 3, 2, 1, 0);
        due("train to none", g.train(6), BAD);
        due("train to none", g.train(-1), BAD);
    }

    // Promises 23 and 24
    private static void keeping() {
        GooseTrain g = new GooseTrain();
        due("no people", g.keep(0), STATE);
        due("bad ahead of state", g.keep(3), BAD);
        Checks.dueFinding(g, "on of a missing one", g.on(0), NOTHING);
        g = Checks.village("o1400 c1000");
        g.touch(0, 0, 9);
        due("keep", g.keep(2), 1);
        g.taste(0, 5);
        g.laugh(1);
        g.row(0, 3);
        due("keep another", g.keep(0), 2);
        due("on", g.on(2), 1);
        due("as it was", g.stuck(), 1);
        due("taste as it was", g.taste(0, 6), 1);
        due("rows stay", g.count(6), 1);
        due("kept stay", g.count(8), 2);
        due("deeds can be undone", g.undo(0), 1);
        due("on again", g.on(2), 1);
        due("kept one has not changed", g.stuck(), 1);
        due("on the other", g.on(0), 2);
        due("undo there", g.undo(1), 1);
        due("stuck there", g.stuck(), 1);
        due("its taste", g.taste(0, 5), 5);
        due("on of none", g.on(3), BAD);
        due("on of none", g.on(-1), BAD);
        due("keep in none", g.keep(-1), BAD);
        Checks.dueFinding(g, "on of a missing place", g.on(1), NOTHING);
    }

    // Promises 25 and 26
    private static void doorsAndStairs() {
        GooseTrain g = Checks.village(SEVEN);
        due("door for none", g.door(0), NONE);
        due("stairs for none", g.stairs(0), 0);
        Checks.touches(g, "009 110 510 201");
        due("door 0", g.door(0), 9);
        due("door 1", g.door(1), 0);
        due("door 2", g.door(2), NONE);
        due("stairs 0", g.stairs(0), 39);
        due("stairs 1", g.stairs(1), 38);
        due("stairs 2", g.stairs(2), 4);
        due("stairs 3", g.stairs(3), 0);
        due("door 7", g.door(7), NONE);
        due("door 8", g.door(8), BAD);
        due("door -1", g.door(-1), BAD);
        due("stairs 8", g.stairs(8), BAD);
        due("stairs -1", g.stairs(-1), BAD);
    }

    // Promise 27
    private static void parting() {
        GooseTrain g = stuckTrain();
        duePart(g, 7, 7, 0, 0);
        duePart(g, 2, 3, 0, 0);
        duePart(g, 2, 2, 1, 1);
        duePart(g, 1, 3, 1, 1);
        duePart(g, 0, 7, 2, 65);
        duePart(g, 7, 0, 2, 65);
        due("part 8", g.part(8, 0), BAD);
        due("part -1", g.part(0, -1), BAD);
        due("refused leaves asked", g.asked(), 65);
        GooseTrain h = Checks.village("o1000 o1000 o1000 o1000 o1000 o1000 o1000");
        // 6 on the goose; 5, 4 on 6; 3, 2, 1 on 5; 0 on the goose
        Checks.touches(h, "609 506 406 305 205 105 009");
        duePart(h, 2, 7, 1, 2);
        duePart(h, 1, 7, 1, 64);
        duePart(h, 2, 2, 1, 32);
        duePart(h, 1, 0, 2, 65);
        duePart(new GooseTrain(), 0, 0, 0, 0);
    }

    private static void duePart(GooseTrain g, int width, int length, int want, int who) {
        due("part(" + width + ", " + length + ")", g.part(width, length), want);
        due("part(" + width + ", " + length + ") told", g.asked(), who);
    }

    // Promise 28
    private static void rooms() {
        GooseTrain g = stuckTrain();
        due("room 7 7", g.room(7, 7), 6);
        due("room 2 3: only 1, 5, 6", g.room(2, 3), 3);
        due("room 2 4: 2, too", g.room(2, 4), 4);
        due("room 3 3: no 2", g.room(3, 3), 5);
        due("room 1 7", g.room(1, 7), 0);
        due("room 7 2", g.room(7, 2), 0);
        due("room 8", g.room(8, 0), BAD);
        due("room -1", g.room(0, -1), BAD);
        GooseTrain none = new GooseTrain();
        due("nobody: the goose", none.room(1, 1), 1);
        due("nobody, width 0", none.room(0, 1), 0);
        due("nobody, length 0", none.room(1, 0), 0);
    }

    // Promise 29
    private static void places() {
        GooseTrain g = stuckTrain();
        due("place 1", g.place(3, 1), 1);
        due("place 4", g.place(3, 4), 1);
        due("place 5", g.place(3, 5), 2);
        due("place 6", g.place(3, 6), NONE);
        due("stuck", g.place(0, 2), NONE);
        due("depth 0", g.place(3, 0), BAD);
        due("depth 8", g.place(3, 8), BAD);
        due("no one", g.place(7, 1), BAD);
        GooseTrain h = Checks.village(SEVEN);
        due("the last of seven", h.place(1, 7), 7);
    }

    // Promise 30
    private static void fun() {
        GooseTrain g = Checks.village("o3400 s2400 p2400 c8000 o1364 o7400 o6400");
        due("three touches", g.fun(0), 3);
        due("sour, three touches", g.fun(1), 3);
        due("princess, three deep", g.fun(2), 3);
        due("child", g.fun(3), 1);
        due("not for a year", g.fun(4), NONE);
        due("seven of six others", g.fun(5), NONE);
        due("six of six others", g.fun(6), 6);
        Checks.touches(g, "409 509 609");
        due("now", g.fun(0), 0);
        due("sour now", g.fun(1), 0);
        due("princess, two deeper", g.fun(2), 2);
        due("child now", g.fun(3), 0);
        due("stuck", g.fun(4), STATE);
        due("no one", g.fun(7), BAD);
        Checks.touches(g, "309");
        due("a stuck child", g.fun(3), STATE);
        GooseTrain h = Checks.village("c1000");
        due("a child alone", h.fun(0), NONE);
    }

    // Promise 31
    private static void jesters() {
        GooseTrain g = Checks.village("o2400 o1400 o1000 c1000");
        due("nobody stuck", g.jester(), NONE);
        g.touch(2, 0, 9);
        due("the first", g.jester(), 1);
        due("the first told", g.asked(), 1);
        g.touch(3, 0, 9);
        due("the first of two stuck", g.jester(), 0);
        due("two free", g.asked(), 2);
        g.laugh(0);
        g.row(0, 1);
        g.lay(0, 0, 77);
        g.at(0, 0);
        due("nobody again", g.jester(), NONE);
        due("NONE leaves asked", g.asked(), 77);
    }

    // Promise 32
    private static void ways() {
        GooseTrain g = Checks.village(SEVEN);
        due("all free", g.ways(), 12);
        g.touch(0, 0, 9);
        due("one stuck", g.ways(), 20);
        g.touch(1, 1, 0);
        due("two stuck", g.ways(), 27);
        GooseTrain h = Checks.village("g1000");
        due("a glove", h.ways(), 1);
        h.touch(0, 1, 9);
        due("all stuck", h.ways(), 0);
    }

    // Promise 33
    private static void feeding() {
        GooseTrain g = stuckTrain();
        due("by a glove", g.feed(0, 2), NONE);
        due("by a glove, up", g.feed(2, 0), NONE);
        due("from a glove", g.feed(1, 0), NONE);
        due("to a glove", g.feed(0, 1), 1);
        due("from below to a glove", g.feed(2, 1), 1);
        due("from a cook", g.feed(5, 1), 2);
        due("by the goose", g.feed(0, 6), NONE);
        due("oneself", g.feed(0, 0), BAD);
        due("no one", g.feed(7, 0), BAD);
        due("to no one", g.feed(0, 9), BAD);
        due("to a free one", g.feed(0, 3), STATE);
        due("from a free one", g.feed(3, 0), STATE);
        GooseTrain h = Checks.village("o1000 o1000 k1000 o1000 o1000");
        Checks.touches(h, "009 100 210 301 402");
        due("up and down by a cook", h.feed(3, 4), 4);
    }

    // Promise 34
    private static void spoons() {
        GooseTrain g = Checks.village(SEVEN);
        due("nobody", g.spoons(), 0);
        due("nobody told", g.asked(), 0);
        Checks.touches(g, TRAIN);
        due("three", g.spoons(), 3);
        due("three told", g.asked(), 69);
        GooseTrain h = Checks.village("g1000 g1000 k1000");
        Checks.touches(h, "019 110 210");
        due("gloves", h.spoons(), 2);
        due("gloves told", h.asked(), 2 + 4);
    }

    // Promise 35
    private static void orders() {
        GooseTrain g = Checks.village("o1000 o1000 o1000 o1000 o1000 o1000 o1000");
        Checks.dueFraction(g, "nobody", g.orders(), 1, 1);
        Checks.touches(g, "009 109 209 309 409 509 609");
        Checks.dueFraction(g, "all on the goose", g.orders(), 5040, 1);
        g.undo(0);
        Checks.touches(g, "009 100 201");
        Checks.dueFraction(g, "a chain", g.orders(), 1, 1);
    }

    // Promises 36 and 37
    private static void odds() {
        GooseTrain g = Checks.village(SEVEN);
        Checks.dueFinding(g, "nobody is stuck", g.came(0, 0), NOUGHT);
        due("nobody is stuck, bad", g.came(7, 0), BAD);
        due("nobody is stuck, bad place", g.came(0, -1), BAD);
        due("nobody is ahead", g.ahead(0, 1), BAD);
        Checks.touches(g, TRAIN);
        Checks.dueFraction(g, "came(0, 0)", g.came(0, 0), 4, 5);
        Checks.dueFraction(g, "came(2, 2)", g.came(2, 2), 2, 15);
        Checks.dueFraction(g, "a free one", g.came(3, 0), 0, 1);
        Checks.dueFraction(g, "a place behind all", g.came(0, 5), 0, 1);
        Checks.dueFraction(g, "a place far behind", g.came(0, MOST), 0, 1);
        Checks.dueFraction(g, "ahead(1, 5)", g.ahead(1, 5), 2, 3);
        Checks.dueFraction(g, "ahead(5, 1)", g.ahead(5, 1), 1, 3);
        Checks.dueFraction(g, "ahead(0, 2)", g.ahead(0, 2), 1, 1);
        Checks.dueFraction(g, "ahead(2, 0)", g.ahead(2, 0), 0, 1);
        due("oneself", g.ahead(0, 0), BAD);
        due("of a free one", g.ahead(3, 0), BAD);
        due("of another free one", g.ahead(0, 3), BAD);
        due("of no one", g.ahead(0, 9), BAD);
        due("refused leaves upper", g.upper(), 0);
    }

    // Promise 38
    private static void nth() {
        GooseTrain g = Checks.village(SEVEN);
        due("nobody", g.nth(0, 0), 1);
        Checks.dueRow(g, "nobody", 0);
        Checks.dueFinding(g, "nobody, 1", g.nth(1, 0), NOUGHT);
        Checks.touches(g, TRAIN);
        due("the first", g.nth(0, 0), 1);
        Checks.dueRow(g, "the first", 0, 0, 1, 2, 5, 6);
        due("the second", g.nth(1, 0), 1);
        Checks.dueRow(g, "the second", 0, 0, 1, 2, 6, 5);
        due("the last", g.nth(14, 0), 1);
        Checks.dueRow(g, "the last", 0, 6, 0, 5, 1, 2);
        Checks.dueFinding(g, "not so many", g.nth(15, 0), NOUGHT);
        Checks.dueFinding(g, "far from so many", g.nth(MOST, 1), NOUGHT);
        due("below 0", g.nth(-1, 0), BAD);
        due("no row", g.nth(0, 6), BAD);
        due("refused makes no row", g.count(6), 1);
    }

    // Promise 39
    private static void gold() {
        GooseTrain g = stuckTrain();
        due("gold 10", g.gold(10, 2), 0);
        Checks.dueRow(g, "gold 10", 2, 1, 1, 1, 0, 0, 2, 5);
        due("gold 1", g.gold(1, 2), 0);
        Checks.dueRow(g, "gold 1", 2, 1, 0, 0, 0, 0, 0, 0);
        due("gold 2", g.gold(2, 2), 0);
        Checks.dueRow(g, "gold 2", 2, 1, 0, 0, 0, 0, 0, 1);
        due("gold 3", g.gold(3, 2), 0);
        Checks.dueRow(g, "gold 3", 2, 1, 1, 0, 0, 0, 0, 1);
        due("gold 0", g.gold(0, 2), 0);
        Checks.dueRow(g, "gold 0", 2, 0, 0, 0, 0, 0, 0, 0);
        due("gold 99", g.gold(99, 2), 0);
        Checks.dueRow(g, "gold 99", 2, 1, 1, 24, 0, 0, 24, 49);
        due("gold 100", g.gold(100, 2), BAD);
        due("gold -1", g.gold(-1, 2), BAD);
        due("gold to none", g.gold(1, 6), BAD);
        GooseTrain h = Checks.village("o1000 o1000");
        due("nobody hangs", h.gold(7, 0), 7);
        Checks.dueRow(h, "nobody hangs", 0, 0, 0);
        due("no people", new GooseTrain().gold(99, 0), 99);
    }

    // Promises 40 and 41
    private static void tastesThatFit() {
        GooseTrain g = new GooseTrain();
        Checks.dueFinding(g, "tastes of a missing one", g.tastes(0), NOTHING);
        Checks.dueFinding(g, "sour of a missing one", g.sour(0), NOTHING);
        due("tastes of none", g.tastes(6), BAD);
        due("sour of none", g.sour(-1), BAD);
        dueTastes(510, 510);
        dueTastes(510 - 2 - 4 - 8, 510 - 2 - 4, 3, 0);
        dueTastes(2 + 4 + 8, 2 + 4, 3, 1);
        dueTastes(8, 4, 3, 1, 2, 0);
        dueTastes(0, 0, 5, 0, 2, 1);
        dueTastes(0, 0, 0, 1);
        dueTastes(510, 510, 0, 0);
        dueTastes(254, 126, 7, 1);
        dueUnlike(UNLIKE, 8, 1);
        dueUnlike(UNLIKE, -1, 1);
        dueUnlike(UNLIKE, 7, 2);
        dueUnlike(UNLIKE, 7, -1);
        dueUnlike(UNLIKE, 0, 0, 9, 0);
        dueUnlike(SIZE, 9, 9, 9);
    }

    private static GooseTrain withRow(int... cells) {
        GooseTrain g = new GooseTrain();
        g.row(0, cells.length);
        for (int i = 0; i < cells.length; i++) {
            g.lay(0, i, cells[i]);
        }
        return g;
    }

    private static void dueTastes(int tastes, int sour, int... cells) {
        GooseTrain g = withRow(cells);
        due("tastes", g.tastes(0), tastes);
        due("sour", g.sour(0), sour);
    }

    private static void dueUnlike(int finding, int... cells) {
        GooseTrain g = withRow(cells);
        Checks.dueFinding(g, "tastes", g.tastes(0), finding);
        Checks.dueFinding(g, "sour", g.sour(0), finding);
        due("findings", g.findings(finding), 2);
    }

    // Promise 42
    private static void lots() {
        GooseTrain g = new GooseTrain();
        due("no people", g.lots(1, 1), STATE);
        due("bad ahead of state", g.lots(0, 1), BAD);
        g = Checks.village("o1000 g1000");
        // 48271 % 3 = 1 of (0 by 0, 0 by 1, 1 by 1): the 0 by hand 1
        due("one lot", g.lots(1, 1), 1);
        duePerson(g, 0, 0, 1, 0, 9, 1, 1);
        // 1 of 2 ways of the glove: on 0, on the goose; 96542 % 2 = 0
        due("another lot", g.lots(1, 2), 1);
        duePerson(g, 1, 1, 1, 0, 0, 1, 2);
        due("none left", g.lots(40, 2147483646), 0);
        due("deeds", g.count(1), 2);
        due("seed 0", g.lots(1, 0), BAD);
        due("seed above", g.lots(1, MOST), BAD);
        due("seed below", g.lots(1, -1), BAD);
        due("41 lots", g.lots(41, 1), BAD);
        for (int i = 0; i < 19; i++) {
            g.days(0);
        }
        due("more than 60 deeds", g.lots(40, 1), FULL);
        due("60 deeds", g.lots(39, 1), 0);
        GooseTrain h = Checks.village(SEVEN);
        due("seven of forty", h.lots(40, 2147483646), 7);
        due("all stuck", h.stuck(), 127);
    }

    // Promises 43 to 45
    private static void askedAndFractions() {
        GooseTrain g = stuckTrain();
        g.part(0, 0);
        due("part told", g.asked(), 65);
        g.spoons();
        due("spoons told", g.asked(), 69);
        g.person(1, 1);
        due("person told", g.asked(), 2);
        g.jester();
        due("jester told", g.asked(), 5);
        g.orders();
        g.came(0, 0);
        g.taste(0, 8);
        g.gold(3, 0);
        g.digest();
        due("others tell nothing", g.asked(), 5);
        due("upper", g.upper(), 4);
        due("lower", g.lower(), 5);
        g.village(0);
        due("a village anew leaves asked", g.asked(), 5);
        due("a village anew leaves upper", g.upper(), 4);
    }

    // Promise 46
    private static void counts() {
        GooseTrain g = stuckTrain();
        g.days(12);
        g.row(1, 0);
        g.row(2, 0);
        g.text(3, 0);
        g.keep(0);
        g.keep(1);
        g.keep(1);
        int[] want = {7, 6, 12, 5, 3, 2, 2, 2, 2};
        for (int what = 0; what < want.length; what++) {
            due("count(" + what + ")", g.count(what), want[what]);
        }
        due("count 9", g.count(9), BAD);
        due("count -1", g.count(-1), BAD);
    }

    // Promises 47 and 48
    private static void findings() {
        GooseTrain g = new GooseTrain();
        g.at(0, 0);
        g.row(0, 0);
        g.at(0, 0);
        g.at(0, 1);
        g.mean(0);
        g.row(0, -1);
        due("latest", g.finding(), SIZE);
        int[] want = {0, 1, 2, 0, 1, 1};
        for (int f = 1; f <= 5; f++) {
            due("findings(" + f + ")", g.findings(f), want[f]);
        }
        due("findings 0", g.findings(0), BAD);
        due("findings 6", g.findings(6), BAD);
        due("BAD is no finding", g.at(9, 9), BAD);
        due("latest still", g.finding(), SIZE);
    }

    // Promise 49
    private static void digests() {
        GooseTrain g = Checks.village("k1007");
        g.touch(0, 1, 9);
        g.keep(1);
        g.days(2);
        g.row(4, 2);
        g.lay(4, 1, -6);
        g.text(3, 1);
        g.put(3, 0, 255);
        long h = 17;
        int[] want = {
            1, 2, 2, 1, 1, 1, 1, 2, 1,
            5, 1, 9, 9, 1, 1,
            -1, 1, -1,
            -1, -1, -1, -1, 2, 0, -6, -1,
            5, 'k', '1', '0', '0', '7', -1, -1, 1, -1
        };
        for (int v : want) {
            h = 31 * h + v;
        }
        due("digest", g.digest(), h);
        due("digest again", g.digest(), h);
    }
}
