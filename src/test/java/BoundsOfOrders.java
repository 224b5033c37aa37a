/** Promises 35 to 42: ORDERS and their ODDS, gold, TASTES that fit, LOTS. */
final class BoundsOfOrders {
    private static final int BAD = Bounds.BAD, FULL = Bounds.FULL, STATE = Bounds.STATE, GOOSE = Bounds.GOOSE;
    private static final int NOTHING = Bounds.NOTHING, UNLIKE = Bounds.UNLIKE, NOUGHT = Bounds.NOUGHT;
    private static final int SIZE = Bounds.SIZE, MOST = Bounds.MOST, LEAST = Bounds.LEAST;
    private static final String ALL_ON_GOOSE = "009 109 209 309 409 509 609";
    private static final String CHAIN = "609 506 405 304 203 102 001";
    private static final int ALL_TASTES = 510;

    private BoundsOfOrders() {
    }

    private static void due(String call, long got, long want) {
        Bounds.due(call, got, want);
    }

    private static GooseTrain seven(String touches) {
        return Bounds.train(Bounds.SEVEN_ONES, touches);
    }

    private static void dueFraction(GooseTrain g, int answer, long upper, long lower) {
        Checks.dueFraction(g, "fraction", answer, upper, lower);
    }

    // ---- 35 orders

    static void promise35_nobodyIs1() {
        GooseTrain g = new GooseTrain();
        dueFraction(g, g.orders(), 1, 1);
        g = Bounds.village(Bounds.SEVEN);
        dueFraction(g, g.orders(), 1, 1);
    }

    static void promise35_fromAChainToAllOnTheGoose() {
        GooseTrain g = seven(CHAIN);
        dueFraction(g, g.orders(), 1, 1);
        g = seven(ALL_ON_GOOSE);
        dueFraction(g, g.orders(), 5040, 1);
        g = seven("009 100 200 300 400 500 600");
        dueFraction(g, g.orders(), 720, 1);
    }

    static void promise35_eachBehindWhomThatOneHangsOn() {
        GooseTrain g = Bounds.busy();
        dueFraction(g, g.orders(), 15, 1);
        g = seven("609 406 506 209 102 001");
        dueFraction(g, g.orders(), 40, 1);
    }

    static void promise35_lowerIs1BehindAnotherFraction() {
        GooseTrain g = Bounds.busy();
        dueFraction(g, g.came(0, 0), 4, 5);
        dueFraction(g, g.orders(), 15, 1);
    }

    static void promise35_tellsNothingByAsked() {
        GooseTrain g = Bounds.busy();
        long before = g.digest();
        g.orders();
        due("asked", g.asked(), 2);
        due("digest", g.digest(), before);
    }

    // ---- 36 came

    static void promise36_eachPlaceOfAChain() {
        GooseTrain g = seven(CHAIN);
        for (int x = 0; x < 7; x++) {
            for (int place = 0; place < 7; place++) {
                dueFraction(g, g.came(x, place), place == 6 - x ? 1 : 0, 1);
            }
        }
    }

    static void promise36_firstAndLastPlace() {
        GooseTrain g = Bounds.busy();
        dueFraction(g, g.came(0, 0), 4, 5);
        dueFraction(g, g.came(6, 0), 1, 5);
        dueFraction(g, g.came(6, 4), 1, 5);
        dueFraction(g, g.came(1, 0), 0, 1);
        dueFraction(g, g.came(2, 4), 8, 15);
        dueFraction(g, g.came(5, 4), 4, 15);
        dueFraction(g, g.came(0, 4), 0, 1);
    }

    static void promise36_allOnTheGooseAreAsLikely() {
        GooseTrain g = seven(ALL_ON_GOOSE);
        for (int place = 0; place < 7; place++) {
            dueFraction(g, g.came(3, place), 1, 7);
        }
    }

    static void promise36_aPlaceBehindAllIs0By1() {
        GooseTrain g = Bounds.busy();
        for (int place : new int[] {5, 6, 7, 8, 128, MOST}) {
            dueFraction(g, g.came(0, place), 0, 1);
        }
    }

    static void promise36_whoIsNotStuckIs0By1() {
        GooseTrain g = Bounds.busy();
        for (int place = 0; place < 7; place++) {
            dueFraction(g, g.came(3, place), 0, 1);
        }
    }

    static void promise36_aPlaceBelow0IsBad() {
        Bounds.leaves(BAD, Bounds::busy, g -> g.came(0, -1));
        Bounds.leaves(BAD, Bounds::busy, g -> g.came(0, LEAST));
    }

    static void promise36_nobodyStuckIsNought() {
        Bounds.finds(NOUGHT, () -> Bounds.village(Bounds.SEVEN), g -> g.came(0, 0));
        Bounds.finds(NOUGHT, () -> Bounds.village(Bounds.SEVEN), g -> g.came(6, MOST));
    }

    static void promise36_badIsAheadOfNought() {
        Bounds.leaves(BAD, () -> Bounds.village(Bounds.SEVEN), g -> g.came(0, -1));
        Bounds.leaves(BAD, () -> Bounds.village(Bounds.SEVEN), g -> g.came(7, 0));
        Bounds.leaves(BAD, GooseTrain::new, g -> g.came(0, 0));
    }

    static void promise36_leavesAskedAndTheVillage() {
        GooseTrain g = Bounds.busy();
        long before = g.digest();
        g.came(6, 4);
        due("asked", g.asked(), 2);
        due("digest", g.digest(), before);
    }

    // ---- 37 ahead

    static void promise37_whomOneHangsOnIsAlwaysAhead() {
        GooseTrain g = Bounds.busy();
        dueFraction(g, g.ahead(0, 2), 1, 1);
        dueFraction(g, g.ahead(2, 0), 0, 1);
        dueFraction(g, g.ahead(1, 2), 1, 1);
    }

    static void promise37_bothTogetherAre1() {
        GooseTrain g = Bounds.busy();
        dueFraction(g, g.ahead(0, 6), 4, 5);
        dueFraction(g, g.ahead(6, 0), 1, 5);
        dueFraction(g, g.ahead(1, 5), 2, 3);
        dueFraction(g, g.ahead(5, 1), 1, 3);
    }

    static void promise37_allOnTheGooseAreEven() {
        GooseTrain g = seven(ALL_ON_GOOSE);
        dueFraction(g, g.ahead(0, 6), 1, 2);
        dueFraction(g, g.ahead(6, 0), 1, 2);
    }

    static void promise37_oneselfIsBad() {
        Bounds.leaves(BAD, Bounds::busy, g -> g.ahead(0, 0));
        Bounds.leaves(BAD, Bounds::busy, g -> g.ahead(3, 3));
    }

    static void promise37_oneOfBothNotStuckIsBad() {
        Bounds.leaves(BAD, Bounds::busy, g -> g.ahead(0, 3));
        Bounds.leaves(BAD, Bounds::busy, g -> g.ahead(3, 0));
        Bounds.leaves(BAD, Bounds::busy, g -> g.ahead(3, 4));
        Bounds.leaves(BAD, () -> Bounds.village(Bounds.SEVEN), g -> g.ahead(0, 1));
    }

    static void promise37_theGooseIsBad() {
        Bounds.leaves(BAD, Bounds::busy, g -> g.ahead(GOOSE, 0));
        Bounds.leaves(BAD, Bounds::busy, g -> g.ahead(0, GOOSE));
    }

    // ---- 38 nth

    static void promise38_theFirstAndTheLast() {
        GooseTrain g = seven(ALL_ON_GOOSE);
        due("first", g.nth(0, 0), 1);
        Checks.dueRow(g, "first", 0, 0, 1, 2, 3, 4, 5, 6);
        due("second", g.nth(1, 0), 1);
        Checks.dueRow(g, "second", 0, 0, 1, 2, 3, 4, 6, 5);
        due("last", g.nth(5039, 5), 1);
        Checks.dueRow(g, "last", 5, 6, 5, 4, 3, 2, 1, 0);
    }

    static void promise38_notSoManyIsNought() {
        Bounds.finds(NOUGHT, () -> seven(ALL_ON_GOOSE), g -> g.nth(5040, 0));
        Bounds.finds(NOUGHT, () -> seven(ALL_ON_GOOSE), g -> g.nth(MOST, 0));
        Bounds.finds(NOUGHT, Bounds::busy, g -> g.nth(15, 0));
        due("the last", Bounds.busy().nth(14, 0), 1);
    }

    static void promise38_byNumbers() {
        GooseTrain g = Bounds.busy();
        int[][] want = {{0, 1, 2, 5, 6}, {0, 1, 2, 6, 5}, {0, 1, 5, 2, 6}, {0, 1, 5, 6, 2}, {0, 1, 6, 2, 5}};
        for (int i = 0; i < want.length; i++) {
            due("nth", g.nth(i, 2), 1);
            Checks.dueRow(g, "number " + i, 2, want[i]);
        }
        g.nth(12, 2);
        Checks.dueRow(g, "number 12", 2, 6, 0, 1, 2, 5);
    }

    static void promise38_nobodyStuckHasOneOrderOfNone() {
        GooseTrain g = Bounds.row(Bounds.village(Bounds.SEVEN), 0, 5, 6);
        due("nth", g.nth(0, 0), 1);
        Checks.dueRow(g, "nth", 0);
        Bounds.finds(NOUGHT, () -> Bounds.village(Bounds.SEVEN), h -> h.nth(1, 0));
        due("no PEOPLE", new GooseTrain().nth(0, 0), 1);
        Bounds.finds(NOUGHT, GooseTrain::new, h -> h.nth(1, 0));
    }

    static void promise38_below0IsBad() {
        Bounds.leaves(BAD, Bounds::busy, g -> g.nth(-1, 0));
        Bounds.leaves(BAD, Bounds::busy, g -> g.nth(LEAST, 0));
    }

    static void promise38_badIsAheadOfNought() {
        Bounds.leaves(BAD, Bounds::busy, g -> g.nth(15, 6));
        Bounds.leaves(BAD, Bounds::busy, g -> g.nth(MOST, -1));
    }

    static void promise38_theRowIsAnew() {
        GooseTrain g = seven("309");
        g.row(0, 40);
        g.nth(0, 0);
        Checks.dueRow(g, "nth", 0, 3);
    }

    static void promise38_leavesUpperAndAsked() {
        GooseTrain g = Bounds.busy();
        g.nth(3, 2);
        due("upper", g.upper(), 4);
        due("lower", g.lower(), 5);
        due("asked", g.asked(), 2);
    }

    // ---- 39 gold

    private static void dueGold(GooseTrain g, int n, int left, int... want) {
        due("gold(" + n + ")", g.gold(n, 2), left);
        Checks.dueRow(g, "gold(" + n + ")", 2, want);
    }

    static void promise39_feathersAre0To99() {
        dueGold(Bounds.busy(), 0, 0, 0, 0, 0, 0, 0, 0, 0);
        dueGold(Bounds.busy(), 99, 0, 1, 1, 24, 0, 0, 24, 49);
        Bounds.badOutside(0, 99, Bounds::busy, (g, n) -> g.gold(n, 2));
    }

    static void promise39_aRowOfNoneToNobody() {
        dueGold(new GooseTrain(), 99, 99);
        dueGold(new GooseTrain(), 0, 0);
    }

    static void promise39_allIsLeftIfNobodyHangsOnTheGoose() {
        dueGold(Bounds.village("o1000 o1000"), 7, 7, 0, 0);
        dueGold(Bounds.village("o1000 o1000"), 99, 99, 0, 0);
        dueGold(Bounds.village("o1000 o1000"), 0, 0, 0, 0);
    }

    static void promise39_byTurnsByNumbers() {
        GooseTrain g = seven("009 209 609");
        dueGold(g, 1, 0, 1, 0, 0, 0, 0, 0, 0);
        dueGold(g, 2, 0, 1, 0, 1, 0, 0, 0, 0);
        dueGold(g, 3, 0, 1, 0, 1, 0, 0, 0, 1);
        dueGold(g, 4, 0, 2, 0, 1, 0, 0, 0, 1);
        dueGold(g, 98, 0, 33, 0, 33, 0, 0, 0, 32);
    }

    static void promise39_eachKeeps1IfThereIsOne() {
        GooseTrain g = seven(CHAIN);
        dueGold(g, 0, 0, 0, 0, 0, 0, 0, 0, 0);
        dueGold(g, 1, 0, 0, 0, 0, 0, 0, 0, 1);
        dueGold(g, 2, 0, 0, 0, 0, 0, 0, 1, 1);
        dueGold(g, 7, 0, 1, 1, 1, 1, 1, 1, 1);
    }

    static void promise39_theLastKeepsAll() {
        dueGold(seven(CHAIN), 99, 0, 93, 1, 1, 1, 1, 1, 1);
        dueGold(seven("009"), 99, 0, 99, 0, 0, 0, 0, 0, 0);
    }

    static void promise39_theOthersAreDealtOnLikewise() {
        dueGold(Bounds.busy(), 3, 0, 1, 1, 0, 0, 0, 0, 1);
        dueGold(Bounds.busy(), 5, 0, 1, 1, 0, 0, 0, 1, 2);
        dueGold(Bounds.busy(), 7, 0, 1, 1, 1, 0, 0, 1, 3);
    }

    static void promise39_theRowIsAnew() {
        GooseTrain g = Bounds.train("o1000 o1000", "109");
        g.row(2, 40);
        g.lay(2, 0, 9);
        g.lay(2, 2, 9);
        dueGold(g, 4, 0, 0, 4);
    }

    static void promise39_leavesAskedAndUpper() {
        GooseTrain g = Bounds.busy();
        g.gold(7, 2);
        due("asked", g.asked(), 2);
        due("upper", g.upper(), 4);
    }

    // ---- 40 tastes

    static void promise40_noPairsFitAll() {
        Bounds.leaves(ALL_TASTES, () -> Bounds.withRow(), g -> g.tastes(0));
    }

    static void promise40_laughedAtASightFitsTastesUpToIt() {
        for (int sight = 0; sight <= 7; sight++) {
            int fit = (2 << sight) - 2;
            due("laughed at " + sight, Bounds.withRow(sight, 1).tastes(0), fit);
            due("not at " + sight, Bounds.withRow(sight, 0).tastes(0), ALL_TASTES - fit);
        }
    }

    static void promise40_pairsThatDoNotGoTogetherFitNone() {
        due("laughed at 2, not at 3", Bounds.withRow(2, 1, 3, 0).tastes(0), 0);
        due("laughed at 3, not at 2", Bounds.withRow(3, 1, 2, 0).tastes(0), 8);
        due("both at 2", Bounds.withRow(2, 1, 2, 0).tastes(0), 0);
        due("laughed at 0", Bounds.withRow(0, 1).tastes(0), 0);
    }

    static void promise40_noPairIsMadeOfTwoHalves() {
        due("laughed at 7 twice", Bounds.withRow(7, 1, 7, 1).tastes(0), 254);
        due("not at 0, laughed at 1", Bounds.withRow(0, 0, 1, 1).tastes(0), 2);
    }

    static void promise40_twentyPairs() {
        GooseTrain g = new GooseTrain();
        g.row(0, 40);
        due("all not at 0", g.tastes(0), ALL_TASTES);
        g.lay(0, 38, 7);
        due("the last not at 7", g.tastes(0), 256);
    }

    static void promise40_aMissingRowIsNothing() {
        Bounds.finds(NOTHING, Bounds::busy, g -> g.tastes(2));
    }

    static void promise40_notEvenIsSizeAheadOfUnlike() {
        Bounds.finds(SIZE, () -> Bounds.withRow(0), g -> g.tastes(0));
        Bounds.finds(SIZE, () -> Bounds.withRow(9, 9, 9), g -> g.tastes(0));
        Bounds.finds(SIZE, () -> Bounds.row(new GooseTrain(), 0, new int[39]), g -> g.tastes(0));
    }

    static void promise40_aSightBelow0OrAbove7IsUnlike() {
        for (int sight : new int[] {-1, 8, LEAST, MOST}) {
            Bounds.finds(UNLIKE, () -> Bounds.withRow(sight, 1), g -> g.tastes(0));
            Bounds.finds(UNLIKE, () -> Bounds.withRow(3, 1, sight, 0), g -> g.tastes(0));
        }
    }

    static void promise40_neither0Nor1IsUnlike() {
        for (int laughed : new int[] {-1, 2, LEAST, MOST}) {
            Bounds.finds(UNLIKE, () -> Bounds.withRow(3, laughed), g -> g.tastes(0));
            Bounds.finds(UNLIKE, () -> Bounds.withRow(3, 1, 3, laughed), g -> g.tastes(0));
        }
    }

    static void promise40_aWrongPairBehindThoseThatFitNoneIsUnlike() {
        Bounds.finds(UNLIKE, () -> Bounds.withRow(0, 1, 8, 0), g -> g.tastes(0));
    }

    static void promise40_onlyLooks() {
        Bounds.leaves(8, Bounds::busy, g -> g.tastes(0));
    }

    // ---- 41 sour

    static void promise41_noPairsFitAll() {
        Bounds.leaves(ALL_TASTES, () -> Bounds.withRow(), g -> g.sour(0));
    }

    static void promise41_laughedAtASightFitsTastesBelowIt() {
        for (int sight = 0; sight <= 7; sight++) {
            int fit = sight == 0 ? 0 : (1 << sight) - 2;
            due("laughed at " + sight, Bounds.withRow(sight, 1).sour(0), fit);
            due("not at " + sight, Bounds.withRow(sight, 0).sour(0), ALL_TASTES - fit);
        }
    }

    static void promise41_pairsThatDoNotGoTogetherFitNone() {
        due("laughed at 2, not at 3", Bounds.withRow(2, 1, 3, 0).sour(0), 0);
        due("laughed at 3, not at 2", Bounds.withRow(3, 1, 2, 0).sour(0), 4);
        due("laughed at 1", Bounds.withRow(1, 1).sour(0), 0);
    }

    static void promise41_noPairIsMadeOfTwoHalves() {
        due("not at 0, not at 1", Bounds.withRow(0, 0, 1, 0).sour(0), ALL_TASTES);
        due("laughed at 2 and at 7", Bounds.withRow(2, 1, 7, 1).sour(0), 2);
    }

    static void promise41_aMissingRowIsNothing() {
        Bounds.finds(NOTHING, Bounds::busy, g -> g.sour(2));
    }

    static void promise41_notEvenIsSizeAheadOfUnlike() {
        Bounds.finds(SIZE, () -> Bounds.withRow(0), g -> g.sour(0));
        Bounds.finds(SIZE, () -> Bounds.withRow(9, 9, 9), g -> g.sour(0));
        Bounds.finds(SIZE, () -> Bounds.row(new GooseTrain(), 0, new int[39]), g -> g.sour(0));
    }

    static void promise41_aWrongPairIsUnlike() {
        for (int number : new int[] {-1, 8, LEAST, MOST}) {
            Bounds.finds(UNLIKE, () -> Bounds.withRow(number, 1), g -> g.sour(0));
            Bounds.finds(UNLIKE, () -> Bounds.withRow(7, 1, 0, number), g -> g.sour(0));
        }
        Bounds.finds(UNLIKE, () -> Bounds.withRow(7, 2), g -> g.sour(0));
        Bounds.finds(UNLIKE, () -> Bounds.withRow(0, 1, 8, 0), g -> g.sour(0));
    }

    static void promise41_onlyLooks() {
        Bounds.leaves(4, Bounds::busy, g -> g.sour(0));
    }

    // ---- 42 lots

    static void promise42_timesAre1To40() {
        due("1", Bounds.village(Bounds.SEVEN_ONES).lots(1, 5), 1);
        due("7", Bounds.village(Bounds.SEVEN_ONES).lots(7, 5), 7);
        due("8", Bounds.village(Bounds.SEVEN_ONES).lots(8, 5), 7);
        due("40", Bounds.village(Bounds.SEVEN_ONES).lots(40, 5), 7);
        Bounds.badOutside(1, 40, Bounds::busy, (g, n) -> g.lots(n, 5));
    }

    static void promise42_seedsAre1To2147483646() {
        due("the least", Bounds.village("o1000").lots(1, 1), 1);
        due("the most", Bounds.village("o1000").lots(1, MOST - 1), 1);
        for (int seed : new int[] {0, -1, LEAST, MOST}) {
            Bounds.leaves(BAD, Bounds::busy, g -> g.lots(1, seed));
        }
    }

    static void promise42_withoutPeopleIsState() {
        Bounds.leaves(STATE, GooseTrain::new, g -> g.lots(1, 1));
        Bounds.leaves(STATE, () -> Bounds.village(" "), g -> g.lots(40, 1));
        Bounds.leaves(BAD, GooseTrain::new, g -> g.lots(1, 0));
        Bounds.leaves(BAD, GooseTrain::new, g -> g.lots(0, 1));
    }

    static void promise42_upTo60DeedsItGoes() {
        due("20 and 40", Bounds.worn(20).lots(40, 1), 4);
        due("56 and 4", Bounds.worn(56).lots(4, 1), 4);
        GooseTrain g = Bounds.worn(59);
        due("59 and 1", g.lots(1, 1), 1);
        due("DEEDS", g.count(1), 60);
    }

    static void promise42_nMoreThan60DeedsIsFull() {
        Bounds.leaves(FULL, () -> Bounds.worn(21), g -> g.lots(40, 1));
        Bounds.leaves(FULL, () -> Bounds.worn(59), g -> g.lots(2, 1));
        Bounds.leaves(FULL, () -> Bounds.worn(60), g -> g.lots(1, 1));
    }

    static void promise42_whereThereIsNoneItEnds() {
        Bounds.leaves(0, () -> seven(CHAIN), g -> g.lots(40, 1));
        GooseTrain g = seven("609 506 405 304 203");
        due("two left", g.lots(40, 9), 2);
        due("DEEDS", g.count(1), 7);
        due("all STUCK", g.stuck(), 127);
    }

    static void promise42_theOnlyTouchThereIsIsDone() {
        GooseTrain g = Bounds.village("g1000");
        due("one way", g.ways(), 1);
        due("lots", g.lots(1, 3), 1);
        due("STUCK", g.stuck(), 1);
        due("by HAND 1", Bounds.fact(g, 0, 4), 1);
    }

    static void promise42_fullIsAskedEvenWhereThereIsNone() {
        GooseTrain g = seven(CHAIN);
        Checks.wear(g, 60);
        due("full", g.lots(1, 1), FULL);
    }

    static void promise42_byWhoHandWhomTheGooseLast() {
        int[][] touches = {
            {1, 0, 0}, {1, 0, 2}, {1, 0, 9}, {1, 1, 0}, {1, 1, 2}, {1, 1, 9}, {3, 1, 0}, {3, 1, 2}, {3, 1, 9}
        };
        for (int seed = 1; seed <= 9; seed++) {
            // 48271 is 4 modulo 9, and a small seed's number is below 2147483647
            int[] want = touches[4 * seed % 9];
            GooseTrain g = Bounds.train("o1000 o1000 o1000 k1000", "009 200");
            due("lots", g.lots(1, seed), 1);
            due("who", g.stuck(), 5 | 1 << want[0]);
            due("by which HAND", Bounds.fact(g, want[0], 4), want[1]);
            due("whom", Bounds.fact(g, want[0], 3), want[2]);
        }
    }

    static void promise42_eachIsADeedThatCanBeUndone() {
        GooseTrain g = Bounds.village(Bounds.SEVEN);
        g.lots(7, 77);
        due("undo", g.undo(2), 5);
        due("STUCK", Integer.bitCount(g.stuck()), 2);
    }

    static void promise42_atOnceAsOneByOne() {
        GooseTrain g = Bounds.village(Bounds.SEVEN_ONES);
        g.lots(2, 1);
        GooseTrain h = Bounds.village(Bounds.SEVEN_ONES);
        h.lots(1, 1);
        h.lots(1, 48271);
        due("digest", g.digest(), h.digest());
    }
}
