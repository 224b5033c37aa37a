/** Promises 43 to 49: what is told. */
final class BoundsOfTold {
    private static final int BAD = Bounds.BAD, NONE = Bounds.NONE, GOOSE = Bounds.GOOSE;

    private BoundsOfTold() {
    }

    private static void due(String call, long got, long want) {
        Bounds.due(call, got, want);
    }

    // ---- 43 asked

    static void promise43_is0Before() {
        Bounds.leaves(0, GooseTrain::new, g -> g.asked());
        GooseTrain g = Bounds.train("o1000 c1000", "009");
        g.laugh(1);
        g.orders();
        g.gold(3, 0);
        g.train(1);
        due("others tell nothing", g.asked(), 0);
    }

    static void promise43_eachOfTheSevenTells() {
        GooseTrain g = Bounds.busy();
        g.lay(0, 0, 50);
        due("lay", g.asked(), 3);
        g.at(0, 0);
        due("at", g.asked(), 50);
        g.mean(0);
        due("mean", g.asked(), 13);
        g.person(4, 2);
        due("person", g.asked(), 1004);
        g.part(0, 0);
        due("part", g.asked(), 65);
        g.jester();
        due("jester", g.asked(), 5);
        g.spoons();
        due("spoons", g.asked(), 69);
    }

    static void promise43_whatWasRefusedTellsNothing() {
        GooseTrain g = Bounds.busy();
        g.lay(2, 0, 5);
        g.at(0, 4);
        g.mean(1);
        g.person(7, 0);
        g.part(8, 8);
        due("asked", g.asked(), 2);
    }

    static void promise43_noneTellsNothing() {
        GooseTrain g = Bounds.row(Bounds.village("c1000"), 0, 7);
        g.at(0, 0);
        due("jester", g.jester(), NONE);
        due("asked", g.asked(), 7);
    }

    static void promise43_aToldNoneIsTold() {
        GooseTrain g = Bounds.row(Bounds.village("c1000"), 0, 7);
        g.at(0, 0);
        due("on nobody", g.person(0, 3), 1);
        due("asked", g.asked(), NONE);
    }

    static void promise43_allOtherCallsLeaveIt() {
        GooseTrain g = Bounds.busy();
        allOtherCalls(g);
        due("asked", g.asked(), 2);
    }

    /** Every call that tells neither by asked() nor by upper(). */
    private static void allOtherCalls(GooseTrain g) {
        g.row(2, 2);
        g.copy(0, 0, 2, 0, 2);
        g.text(2, 2);
        g.put(2, 0, 65);
        g.fault(2);
        g.mark(2, 2);
        g.taste(0, 8);
        g.days(3);
        g.stuck();
        g.canLaugh();
        g.hang(GOOSE);
        g.train(2);
        g.keep(1);
        g.on(1);
        g.door(1);
        g.stairs(1);
        g.room(7, 7);
        g.place(3, 5);
        g.fun(3);
        g.ways();
        g.feed(0, 1);
        g.nth(3, 2);
        g.gold(9, 2);
        g.tastes(0);
        g.sour(0);
        g.touch(3, 0, GOOSE);
        g.lots(1, 1);
        g.undo(4);
        g.laugh(3);
        g.count(1);
        g.finding();
        g.findings(1);
        g.digest();
        g.tear(2);
        g.village(0);
    }

    // ---- 44, 45 upper, lower

    static void promise44_is0Before() {
        due("upper", new GooseTrain().upper(), 0);
        GooseTrain g = Bounds.village(Bounds.SEVEN);
        g.came(0, 0);
        due("refused tells nothing", g.upper(), 0);
    }

    static void promise44_isWhatWasToldLast() {
        GooseTrain g = Bounds.busy();
        g.orders();
        due("orders", g.upper(), 15);
        g.came(2, 2);
        due("came", g.upper(), 2);
        g.ahead(0, 2);
        due("ahead", g.upper(), 1);
    }

    static void promise44_refusedAndOtherCallsLeaveIt() {
        GooseTrain g = Bounds.busy();
        g.came(0, -1);
        g.ahead(0, 0);
        g.ahead(0, 3);
        allOtherCalls(g);
        due("nobody is STUCK", g.came(0, 0), Bounds.FINDING);
        due("upper", g.upper(), 4);
    }

    static void promise45_is1Before() {
        due("lower", new GooseTrain().lower(), 1);
        GooseTrain g = Bounds.village(Bounds.SEVEN);
        g.came(0, 0);
        due("refused tells nothing", g.lower(), 1);
    }

    static void promise45_isWhatWasToldLast() {
        GooseTrain g = Bounds.busy();
        g.orders();
        due("orders", g.lower(), 1);
        g.came(2, 2);
        due("came", g.lower(), 15);
        g.ahead(0, 2);
        due("ahead", g.lower(), 1);
    }

    static void promise45_refusedAndOtherCallsLeaveIt() {
        GooseTrain g = Bounds.busy();
        g.came(0, -1);
        g.ahead(0, 0);
        g.ahead(0, 3);
        allOtherCalls(g);
        due("nobody is STUCK", g.came(0, 0), Bounds.FINDING);
        due("lower", g.lower(), 5);
    }

    // ---- 46 count

    static void promise46_whatIs0To8() {
        int[] want = {7, 6, 5, 5, 3, 2, 3, 3, 2};
        for (int what = 0; what <= 8; what++) {
            int of = what;
            Bounds.leaves(want[what], Bounds::busy, g -> g.count(of));
            Bounds.leaves(0, GooseTrain::new, g -> g.count(of));
        }
    }

    static void promise46_below0OrAbove8IsBad() {
        Bounds.badOutside(0, 8, Bounds::busy, (g, what) -> g.count(what));
        Bounds.badOutside(0, 8, GooseTrain::new, (g, what) -> g.count(what));
    }

    static void promise46_cooksAreGlovedOnesToo() {
        due("none", Bounds.village("o1000 s1000 c1000 p1000").count(5), 0);
        due("both", Bounds.village("g1000 k1000 o1000").count(5), 2);
        due("all", Bounds.village("k1000".repeat(7)).count(5), 7);
    }

    static void promise46_howDeepTheTrainIs() {
        due("7", Bounds.train(Bounds.SEVEN_ONES, "609 506 405 304 203 102 001").count(4), 7);
        due("1", Bounds.train(Bounds.SEVEN_ONES, "009 109 209 309 409 509 609").count(4), 1);
    }

    static void promise46_allRowsTextsAndPlacesToKeep() {
        GooseTrain g = Bounds.village("o1000");
        for (int r = 0; r < 6; r++) {
            g.row(r, 0);
        }
        for (int t = 0; t < 4; t++) {
            g.text(t, 0);
        }
        for (int k = 0; k < 3; k++) {
            g.keep(k);
        }
        due("ROWS", g.count(6), 6);
        due("TEXTS", g.count(7), 4);
        due("kept", g.count(8), 3);
    }

    // ---- 47, 48 finding, findings

    static void promise47_is0BeforeAny() {
        Bounds.leaves(0, GooseTrain::new, g -> g.finding());
        GooseTrain g = new GooseTrain();
        g.row(9, 9);
        g.days(1);
        due("BAD and STATE are none", g.finding(), 0);
    }

    static void promise47_isTheLatest() {
        GooseTrain g = new GooseTrain();
        g.at(0, 0);
        due("NOTHING", g.finding(), 1);
        g.row(0, 1);
        due("a call that goes leaves it", g.finding(), 1);
        g.at(0, 1);
        due("BEYOND", g.finding(), 2);
        g.lay(0, 0, 9);
        g.text(0, -1);
        due("SIZE", g.finding(), 5);
        g.came(0, 0);
        due("BAD leaves it", g.finding(), 5);
    }

    static void promise48_findingsAre1To5() {
        for (int f = 1; f <= 5; f++) {
            int of = f;
            Bounds.leaves(0, GooseTrain::new, g -> g.findings(of));
        }
        Bounds.badOutside(1, 5, Bounds::busy, (g, f) -> g.findings(f));
        Bounds.badOutside(1, 5, GooseTrain::new, (g, f) -> g.findings(f));
    }

    static void promise48_howOftenEachWasAnswered() {
        GooseTrain g = Bounds.row(Bounds.village("o1000"), 0, 9, 9);
        for (int i = 0; i < 5; i++) {
            g.at(1, 0);
        }
        for (int i = 0; i < 4; i++) {
            g.at(0, 2);
        }
        for (int i = 0; i < 3; i++) {
            g.tastes(0);
        }
        g.came(0, 0);
        g.nth(1, 0);
        g.row(0, -1);
        int[] want = {0, 5, 4, 3, 2, 1};
        for (int f = 1; f <= 5; f++) {
            due("findings(" + f + ")", g.findings(f), want[f]);
        }
    }

    static void promise48_aVillageAnewLeavesThem() {
        GooseTrain g = Bounds.busy();
        g.village(0);
        g.undo(0);
        due("NOTHING", g.findings(1), 1);
        due("SIZE", g.findings(5), 1);
    }

    // ---- 49 digest

    private static void dueDigest(GooseTrain g, int... values) {
        long h = 17;
        for (int v : values) {
            h = 31 * h + v;
        }
        due("digest", g.digest(), h);
        due("digest again", g.digest(), h);
    }

    static void promise49_ofANewObject() {
        dueDigest(new GooseTrain(), 0, 0, 0, 0, 0, 0, 0, 0, 0, -1, -1, -1, -1, -1, -1, -1, -1, -1, -1, -1, -1, -1);
    }

    static void promise49_emptyRowsAndTextsAreNotMissing() {
        GooseTrain g = new GooseTrain();
        g.row(0, 0);
        g.row(5, 1);
        g.text(0, 0);
        g.text(3, 1);
        dueDigest(g, 0, 0, 0, 0, 0, 0, 2, 2, 0, -1, -1, -1, 0, -1, -1, -1, -1, 1, 0, 0, -1, -1, 1, 32);
    }

    static void promise49_keptWithoutDeedsIsNotMissing() {
        GooseTrain g = Bounds.village("o8999");
        g.keep(0);
        g.days(0);
        g.keep(2);
        g.text(0, 0);
        dueDigest(g, 1, 1, 0, 0, 0, 0, 0, 1, 2, 0, 8, 999, NONE, NONE, 0, 0, -1, 1,
            -1, -1, -1, -1, -1, -1, 0, -1, -1, -1);
    }

    static void promise49_ofEachOneAllSix() {
        GooseTrain g = Bounds.train("o1000 k3365", "119 001");
        g.text(0, 0);
        dueDigest(g, 2, 2, 0, 2, 2, 1, 0, 1, 0, 0, 1, 0, 1, 0, 2, 5, 3, 365, 9, 1, 1, -1, -1, -1,
            -1, -1, -1, -1, -1, -1, 0, -1, -1, -1);
    }

    static void promise49_bytesAndIntsBelow0() {
        GooseTrain g = new GooseTrain();
        g.row(0, 2);
        g.lay(0, 0, Bounds.LEAST);
        g.lay(0, 1, Bounds.MOST);
        g.text(0, 2);
        g.put(0, 0, 255);
        g.put(0, 1, 128);
        dueDigest(g, 0, 0, 0, 0, 0, 0, 1, 1, 0, -1, -1, -1, 2, Bounds.LEAST, Bounds.MOST, -1, -1, -1, -1, -1,
            2, -1, -128, -1, -1, -1);
    }

    static void promise49_changesNothing() {
        GooseTrain one = Bounds.busy();
        one.digest();
        due("asked", one.asked(), 2);
        due("finding", one.finding(), Bounds.SIZE);
        due("BAD leaves it", one.count(9), BAD);
        due("digest", one.digest(), Bounds.busy().digest());
    }
}
