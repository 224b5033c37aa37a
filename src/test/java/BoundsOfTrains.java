/** Promises 25 to 34: DOORS, STAIRS, whom to part, room, TOUCHES to come, FOOD. */
final class BoundsOfTrains {
    private static final int BAD = Bounds.BAD, STATE = Bounds.STATE, NONE = Bounds.NONE, GOOSE = Bounds.GOOSE;
    private static final int MOST = Bounds.MOST;
    private static final String ALL_ON_GOOSE = "009 109 209 309 409 509 609";
    private static final String ALL_ON_0 = "009 100 200 300 400 500 600";
    /** 6 HANGS ON THE GOOSE, 5 on 6, and so on: the DEPTH of x is 7 - x. */
    private static final String CHAIN = "609 506 405 304 203 102 001";

    private BoundsOfTrains() {
    }

    private static void due(String call, long got, long want) {
        Bounds.due(call, got, want);
    }

    private static GooseTrain seven(String touches) {
        return Bounds.train(Bounds.SEVEN_ONES, touches);
    }

    // ---- 25 door

    static void promise25_widthsAre0To7() {
        for (int width = 0; width <= 7; width++) {
            due("nobody", new GooseTrain().door(width), NONE);
            due("nobody STUCK", Bounds.village(Bounds.SEVEN).door(width), NONE);
        }
        Bounds.badOutside(0, 7, Bounds::busy, (g, width) -> g.door(width));
        Bounds.badOutside(0, 7, GooseTrain::new, (g, width) -> g.door(width));
    }

    static void promise25_asManyAsTheWidthPass() {
        Bounds.leaves(NONE, Bounds::busy, g -> g.door(2));
        Bounds.leaves(NONE, () -> seven(ALL_ON_GOOSE), g -> g.door(7));
        Bounds.leaves(NONE, () -> seven(ALL_ON_0), g -> g.door(6));
        Bounds.leaves(NONE, () -> seven(CHAIN), g -> g.door(1));
    }

    static void promise25_oneMoreThanTheWidthDoesNot() {
        Bounds.leaves(GOOSE, Bounds::busy, g -> g.door(1));
        Bounds.leaves(GOOSE, () -> seven(ALL_ON_GOOSE), g -> g.door(6));
        Bounds.leaves(0, () -> seven(ALL_ON_0), g -> g.door(5));
        Bounds.leaves(GOOSE, () -> seven(CHAIN), g -> g.door(0));
    }

    static void promise25_theGooseIsAheadOfAll() {
        due("0 and THE GOOSE", seven("009 109 200 300").door(1), GOOSE);
    }

    static void promise25_theFirstByNumbers() {
        GooseTrain g = seven("309 103 203 001 401");
        due("1 and 3", g.door(1), 1);
        due("neither", g.door(2), NONE);
        due("THE GOOSE, too", g.door(0), GOOSE);
        due("the last one", seven("609 006 106").door(1), 6);
    }

    // ---- 26 stairs

    static void promise26_lengthsAre0To7() {
        for (int length = 0; length <= 7; length++) {
            due("nobody", new GooseTrain().stairs(length), 0);
            due("a chain of seven", seven(CHAIN).stairs(length), (1 << 7 - length) - 1);
        }
        Bounds.badOutside(0, 7, Bounds::busy, (g, length) -> g.stairs(length));
        Bounds.badOutside(0, 7, GooseTrain::new, (g, length) -> g.stairs(length));
    }

    static void promise26_asDeepAsTheLengthPasses() {
        Bounds.leaves(0, Bounds::busy, g -> g.stairs(3));
        Bounds.leaves(0, () -> seven(ALL_ON_GOOSE), g -> g.stairs(1));
    }

    static void promise26_oneDeeperThanTheLengthDoesNot() {
        Bounds.leaves(4, Bounds::busy, g -> g.stairs(2));
        Bounds.leaves(127, () -> seven(ALL_ON_GOOSE), g -> g.stairs(0));
    }

    static void promise26_whoIsFreeIsNotTooDeep() {
        due("two of seven", seven("109 301").stairs(0), 2 + 8);
    }

    // ---- 27 part

    private static void duePart(GooseTrain g, int width, int length, int want, int who) {
        long before = g.digest();
        due("part(" + width + ", " + length + ")", g.part(width, length), want);
        due("part(" + width + ", " + length + ") told", g.asked(), who);
        due("only looks", g.digest(), before);
    }

    static void promise27_widthsAndLengthsAre0To7() {
        for (int n = 0; n <= 7; n++) {
            duePart(new GooseTrain(), n, 7, 0, 0);
            duePart(new GooseTrain(), 7, n, 0, 0);
        }
        Bounds.badOutside(0, 7, Bounds::busy, (g, width) -> g.part(width, 3));
        Bounds.badOutside(0, 7, Bounds::busy, (g, length) -> g.part(3, length));
    }

    static void promise27_noneIfItPasses() {
        duePart(Bounds.busy(), 2, 3, 0, 0);
        duePart(seven(ALL_ON_GOOSE), 7, 1, 0, 0);
        duePart(seven(CHAIN), 1, 7, 0, 0);
    }

    static void promise27_oneIfItJustDoesNot() {
        duePart(Bounds.busy(), 2, 2, 1, 1);
        duePart(Bounds.busy(), 1, 3, 1, 1);
        duePart(seven(ALL_ON_GOOSE), 6, 1, 1, 1);
        duePart(seven(CHAIN), 1, 6, 1, 1 << 1 - 1);
    }

    static void promise27_allOnTheGooseIfNobodyMay() {
        duePart(Bounds.busy(), 0, 7, 2, 1 + 64);
        duePart(Bounds.busy(), 7, 0, 2, 1 + 64);
        duePart(seven(ALL_ON_GOOSE), 0, 0, 7, 127);
        duePart(seven(CHAIN), 0, 0, 1, 64);
    }

    static void promise27_eachWithAllWhoHangOnThatOne() {
        duePart(seven(CHAIN), 1, 3, 1, 8);
        duePart(seven("009 109 200 300 402 503"), 2, 1, 1, 1);
    }

    static void promise27_theLeastOfSeveral() {
        duePart(seven(ALL_ON_GOOSE), 3, 7, 4, 15);
        duePart(seven("009 109 200 301"), 2, 1, 2, 3);
        duePart(seven("609 509 406 305"), 2, 1, 2, 8 + 16);
    }

    static void promise27_doorAndStairsAtOnce() {
        duePart(seven("009 109 200 302"), 1, 1, 1, 1);
        duePart(seven("009 109 201 302"), 1, 1, 1, 2);
        duePart(seven("009 109 200 301"), 1, 1, 2, 3);
    }

    // ---- 28 room

    static void promise28_widthsAndLengthsAre0To7() {
        for (int n = 0; n <= 7; n++) {
            due("nobody, width " + n, new GooseTrain().room(n, 7), n == 0 ? 0 : 1);
            due("nobody, length " + n, new GooseTrain().room(7, n), n == 0 ? 0 : 1);
        }
        Bounds.badOutside(0, 7, Bounds::busy, (g, width) -> g.room(width, 7));
        Bounds.badOutside(0, 7, Bounds::busy, (g, length) -> g.room(7, length));
    }

    static void promise28_noneIfItDoesNotPassNow() {
        Bounds.leaves(0, Bounds::busy, g -> g.room(1, 7));
        Bounds.leaves(0, Bounds::busy, g -> g.room(7, 2));
        Bounds.leaves(0, Bounds::busy, g -> g.room(0, 0));
    }

    static void promise28_noneOnWhomAsManyAsTheWidthHang() {
        Bounds.leaves(3, Bounds::busy, g -> g.room(2, 3));
        Bounds.leaves(5, Bounds::busy, g -> g.room(3, 3));
        due("all on THE GOOSE", seven(ALL_ON_GOOSE).room(7, 7), 7);
        due("six on 0", seven(ALL_ON_0).room(6, 7), 7);
        due("six on 0, wider", seven(ALL_ON_0).room(7, 7), 8);
    }

    static void promise28_noneOnWhoIsAsDeepAsTheLength() {
        Bounds.leaves(4, Bounds::busy, g -> g.room(2, 4));
        due("all on THE GOOSE", seven("009 109").room(7, 1), 1);
        due("all on THE GOOSE, longer", seven("009 109").room(7, 2), 3);
        due("a chain of seven", seven(CHAIN).room(7, 7), 7);
    }

    static void promise28_theGooseTooAndNobodyWhoIsFree() {
        due("nobody STUCK", Bounds.village(Bounds.SEVEN).room(7, 7), 1);
        due("one STUCK", seven("009").room(7, 7), 2);
    }

    // ---- 29 place

    static void promise29_depthsAre1To7() {
        for (int depth = 1; depth <= 7; depth++) {
            due("DEPTH " + depth, Bounds.village(Bounds.SEVEN).place(1, depth), depth);
        }
        Bounds.badOutside(1, 7, Bounds::busy, (g, depth) -> g.place(3, depth));
    }

    static void promise29_whoIsStuckNever() {
        for (int depth = 1; depth <= 7; depth++) {
            int deep = depth;
            Bounds.leaves(NONE, Bounds::busy, g -> g.place(0, deep));
        }
        Bounds.leaves(BAD, Bounds::busy, g -> g.place(0, 0));
        Bounds.leaves(BAD, Bounds::busy, g -> g.place(0, 8));
    }

    static void promise29_neverWithTooFewOthers() {
        due("one, DEPTH 1", Bounds.village("o1000").place(0, 1), 1);
        due("one, DEPTH 2", Bounds.village("o1000").place(0, 2), NONE);
        due("six, DEPTH 6", Bounds.village("o1000".repeat(6)).place(5, 6), 6);
        due("six, DEPTH 7", Bounds.village("o1000".repeat(6)).place(5, 7), NONE);
    }

    static void promise29_oneTouchUpTo1DeeperThanTheTrain() {
        for (int depth = 1; depth <= 4; depth++) {
            due("DEPTH " + depth, Bounds.busy().place(3, depth), 1);
        }
        Bounds.leaves(2, Bounds::busy, g -> g.place(3, 5));
        Bounds.leaves(NONE, Bounds::busy, g -> g.place(3, 6));
        Bounds.leaves(NONE, Bounds::busy, g -> g.place(3, 7));
    }

    static void promise29_whoIsStuckBesidesTheDeepestHelpsNothing() {
        GooseTrain g = seven("009 109 209");
        due("DEPTH 5 by three more", g.place(6, 5), 4);
        due("DEPTH 6 by too few", g.place(6, 6), NONE);
    }

    static void promise29_aGlovedOneAndACookStickByHand1() {
        GooseTrain g = Bounds.village("g1000 k1000 g1000");
        due("DEPTH 3", g.place(0, 3), 3);
        due("DEPTH 4", g.place(0, 4), NONE);
    }

    // ---- 30 fun

    private static void dueFun(String text, int want) {
        due("fun of '" + text + "'", Bounds.village(text).fun(0), want);
    }

    static void promise30_asManyAsTheTaste() {
        for (int taste = 1; taste <= 6; taste++) {
            dueFun("o" + taste + "400" + "o1000".repeat(6), taste);
        }
        dueFun("o7400" + "o1000".repeat(6), NONE);
        dueFun("o8400" + "o1000".repeat(6), NONE);
    }

    static void promise30_sourOnes1More() {
        for (int taste = 1; taste <= 5; taste++) {
            dueFun("s" + taste + "400" + "o1000".repeat(6), taste + 1);
            dueFun("p" + taste + "400" + "o1000".repeat(6), taste + 1);
        }
        dueFun("s6400" + "o1000".repeat(6), NONE);
        dueFun("p6400" + "o1000".repeat(6), NONE);
    }

    static void promise30_neverWithTooFewOthers() {
        dueFun("o1400", NONE);
        dueFun("o1400 o1000", 1);
        dueFun("o2400 g1000", NONE);
        dueFun("o2400 g1000 k1000", 2);
        dueFun("s1400 o1000", NONE);
        dueFun("s1400 o1000 o1000", 2);
    }

    static void promise30_onlyTodayCounts() {
        dueFun("o1364 o1000", NONE);
        dueFun("o1365 o1000", 1);
        dueFun("s1364 o1000 o1000", NONE);
        due("364 days, as soon as it could", Bounds.train("o1364 o1000", "109").fun(0), NONE);
    }

    static void promise30_aChildBy1() {
        dueFun("c8000 o1000", 1);
        dueFun("c8000", NONE);
        due("anybody is STUCK", Bounds.train("c8000 o1000", "109").fun(0), 0);
    }

    static void promise30_noneMoreIfOneCanNow() {
        Bounds.leaves(0, () -> Bounds.train("o2400 o1000 o1000", "109 209"), g -> g.fun(0));
        Bounds.leaves(1, () -> Bounds.train("o3400 o1000 o1000 o1000", "109 209"), g -> g.fun(0));
        Bounds.leaves(0, () -> Bounds.train("o1400 o1000 o1000", "109 209"), g -> g.fun(0));
    }

    static void promise30_aPrincessNeedsItDeeper() {
        Bounds.leaves(2, () -> Bounds.train("p2400 o1000 o1000 o1000 o1000", "109 209"), g -> g.fun(0));
        Bounds.leaves(1, () -> Bounds.train("p2400 o1000 o1000 o1000 o1000", "109 201"), g -> g.fun(0));
        Bounds.leaves(NONE, () -> Bounds.train("p2400 o1000 o1000 o1000", "109 209"), g -> g.fun(0));
    }

    static void promise30_whoIsStuckIsState() {
        Bounds.leaves(STATE, Bounds::busy, g -> g.fun(0));
        Bounds.leaves(STATE, () -> Bounds.train("c1000 o1000", "009 109"), g -> g.fun(0));
        Bounds.leaves(STATE, () -> Bounds.train("o1000 o1000", "009 109"), g -> g.fun(0));
    }

    // ---- 31 jester

    static void promise31_nobodyCan() {
        Bounds.leaves(NONE, GooseTrain::new, g -> g.jester());
        Bounds.leaves(NONE, () -> Bounds.village("c1000 o1400"), g -> g.jester());
        Bounds.leaves(NONE, () -> Bounds.row(Bounds.train("o2400 o1000", "109"), 0, 5), g -> g.jester());
    }

    static void promise31_noneLeavesAsked() {
        GooseTrain g = Bounds.row(Bounds.village("c1000"), 0, 5);
        g.at(0, 0);
        due("jester", g.jester(), NONE);
        due("asked", g.asked(), 5);
    }

    static void promise31_theFirstAndHowManyWouldBeFree() {
        GooseTrain g = Bounds.train("o3400 o1364 o2400 o1400 o1000 c1000", "409 509");
        due("jester", g.jester(), 2);
        due("asked", g.asked(), 2);
        due("as laugh", g.laugh(2), 2);
    }

    static void promise31_theLastOne() {
        GooseTrain g = Bounds.train("o1000o1000o1000o1000o1000o1000o1365", "009");
        due("jester", g.jester(), 6);
        due("asked", g.asked(), 1);
    }

    static void promise31_aStuckChild() {
        GooseTrain g = Bounds.train("c1000 o1000", "009 100");
        due("jester", g.jester(), 0);
        due("asked", g.asked(), 2);
    }

    static void promise31_onlyLooks() {
        GooseTrain g = Bounds.busy();
        long before = g.digest();
        due("jester", g.jester(), 3);
        due("digest", g.digest(), before);
    }

    // ---- 32 ways

    static void promise32_noneWithoutPeopleOrWhenAllAreStuck() {
        Bounds.leaves(0, GooseTrain::new, g -> g.ways());
        Bounds.leaves(0, () -> seven(CHAIN), g -> g.ways());
    }

    static void promise32_onlyThoseThatStick() {
        due("a ONE", Bounds.village("o1000").ways(), 2);
        due("a GLOVED one", Bounds.village("g1000").ways(), 1);
        due("a COOK", Bounds.village("k1000").ways(), 1);
        due("a PRINCESS", Bounds.village("p1000").ways(), 2);
    }

    static void promise32_eachWhoIsStuckCanBeTouched() {
        Bounds.leaves(24, () -> Bounds.train(Bounds.SEVEN, "009 110 510 201 619"), g -> g.ways());
        for (int stuck = 0; stuck <= 6; stuck++) {
            GooseTrain g = Bounds.village(Bounds.SEVEN_ONES);
            for (int x = 0; x < stuck; x++) {
                g.touch(x, 0, GOOSE);
            }
            due("of " + stuck, g.ways(), 2 * (7 - stuck) * (stuck + 1));
        }
    }

    // ---- 33 feed

    static void promise33_byHowManyPassings() {
        GooseTrain g = seven(CHAIN);
        for (int x = 0; x < 6; x++) {
            due("down", g.feed(6, x), 6 - x);
            due("up", g.feed(x, 6), 6 - x);
        }
    }

    static void promise33_upAndDownAgain() {
        GooseTrain g = seven("009 100 201 300 403");
        due("2 to 4", g.feed(2, 4), 4);
        due("1 to 3", g.feed(1, 3), 2);
        due("2 to 3", g.feed(2, 3), 3);
    }

    static void promise33_notByTheGoose() {
        Bounds.leaves(NONE, Bounds::busy, g -> g.feed(0, 6));
        Bounds.leaves(NONE, Bounds::busy, g -> g.feed(6, 5));
    }

    static void promise33_aGlovedOneCantPassItOn() {
        Bounds.leaves(NONE, Bounds::busy, g -> g.feed(1, 0));
        Bounds.leaves(NONE, Bounds::busy, g -> g.feed(1, 2));
        Bounds.leaves(NONE, Bounds::busy, g -> g.feed(0, 2));
        Bounds.leaves(NONE, Bounds::busy, g -> g.feed(2, 0));
    }

    static void promise33_aGlovedOneCanBeTheLast() {
        Bounds.leaves(1, Bounds::busy, g -> g.feed(0, 1));
        Bounds.leaves(1, Bounds::busy, g -> g.feed(2, 1));
        Bounds.leaves(2, Bounds::busy, g -> g.feed(5, 1));
    }

    static void promise33_aCookCan() {
        GooseTrain g = Bounds.train("o1000 k1000 o1000", "009 110 201");
        due("from", g.feed(1, 0), 1);
        due("by", g.feed(0, 2), 2);
        due("to", g.feed(2, 1), 1);
    }

    static void promise33_oneselfIsBadAheadOfState() {
        Bounds.leaves(BAD, Bounds::busy, g -> g.feed(0, 0));
        Bounds.leaves(BAD, Bounds::busy, g -> g.feed(3, 3));
    }

    static void promise33_whoIsNotStuckIsState() {
        Bounds.leaves(STATE, Bounds::busy, g -> g.feed(0, 3));
        Bounds.leaves(STATE, Bounds::busy, g -> g.feed(3, 0));
        Bounds.leaves(STATE, Bounds::busy, g -> g.feed(3, 4));
    }

    static void promise33_theGooseIsBad() {
        Bounds.leaves(BAD, Bounds::busy, g -> g.feed(0, GOOSE));
        Bounds.leaves(BAD, Bounds::busy, g -> g.feed(GOOSE, 0));
        Bounds.leaves(BAD, Bounds::busy, g -> g.feed(3, MOST));
    }

    // ---- 34 spoons

    private static void dueSpoons(GooseTrain g, int want, int who) {
        long before = g.digest();
        due("spoons", g.spoons(), want);
        due("spoons told", g.asked(), who);
        due("only looks", g.digest(), before);
    }

    static void promise34_noneIfNobodyIsStuck() {
        dueSpoons(new GooseTrain(), 0, 0);
        dueSpoons(Bounds.village(Bounds.SEVEN), 0, 0);
        GooseTrain g = Bounds.withRow(5);
        g.at(0, 0);
        dueSpoons(g, 0, 0);
    }

    static void promise34_oneForAllOfOnes() {
        dueSpoons(seven("609"), 1, 64);
        dueSpoons(seven(CHAIN), 1, 1);
        dueSpoons(seven("309 503"), 1, 8);
    }

    static void promise34_oneForEachOnTheGoose() {
        dueSpoons(seven(ALL_ON_GOOSE), 7, 127);
        dueSpoons(seven("009 109 200 301"), 2, 3);
    }

    static void promise34_gloveByGloveEachHasOne() {
        dueSpoons(Bounds.train("g1000 g1000 g1000", "019 110 211"), 3, 7);
    }

    static void promise34_aGlovedOneIsFedByOthersAndParts() {
        dueSpoons(Bounds.train("g1000 o1000", "019 100"), 1, 2);
        dueSpoons(Bounds.train("o1000 g1000 o1000", "009 110 201"), 2, 1 + 4);
        dueSpoons(Bounds.train("o1000 k1000 o1000", "009 110 201"), 1, 1);
    }

    static void promise34_theLeastOfSeveral() {
        dueSpoons(seven("609 509 406 305"), 2, 8 + 16);
        dueSpoons(Bounds.busy(), 3, 1 + 4 + 64);
    }
}
