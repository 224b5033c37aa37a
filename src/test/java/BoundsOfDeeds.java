/** Promises 15 to 24: TOUCHES, LAUGHS, days, undone; who HANGS ON whom; VILLAGES kept. */
final class BoundsOfDeeds {
    private static final int BAD = Bounds.BAD, FULL = Bounds.FULL, STATE = Bounds.STATE, NONE = Bounds.NONE;
    private static final int GOOSE = Bounds.GOOSE, NOTHING = Bounds.NOTHING, MOST = Bounds.MOST;

    private BoundsOfDeeds() {
    }

    private static void due(String call, long got, long want) {
        Bounds.due(call, got, want);
    }

    // ---- 15 touch

    static void promise15_sticksToTheGoose() {
        GooseTrain g = Bounds.village("o1000 o1000");
        due("touch", g.touch(0, 0, GOOSE), 1);
        due("a DEED", g.count(1), 1);
        due("STUCK", g.stuck(), 1);
        due("on whom", Bounds.fact(g, 0, 3), GOOSE);
    }

    static void promise15_sticksToOneWhoIsStuck() {
        GooseTrain g = Bounds.train("o1000 o1000", "009");
        due("touch", g.touch(1, 1, 0), 1);
        due("a DEED", g.count(1), 2);
        due("STUCK", g.stuck(), 3);
        due("on whom", Bounds.fact(g, 1, 3), 0);
        due("by which HAND", Bounds.fact(g, 1, 4), 1);
    }

    static void promise15_doesNotStickByAGlove() {
        Bounds.leaves(0, () -> Bounds.train("o1000 g1000 k1000", "009"), g -> g.touch(1, 0, GOOSE));
        Bounds.leaves(0, () -> Bounds.train("o1000 g1000 k1000", "009"), g -> g.touch(2, 0, GOOSE));
        Bounds.leaves(0, () -> Bounds.train("o1000 g1000 k1000", "009"), g -> g.touch(1, 0, 0));
        Bounds.leaves(0, () -> Bounds.train("o1000 g1000 k1000", "009"), g -> g.touch(2, 0, 0));
    }

    static void promise15_handsBut0And1AreBad() {
        Bounds.badOutside(0, 1, Bounds::busy, (g, hand) -> g.touch(3, hand, GOOSE));
    }

    static void promise15_whomBesidesPeopleAndTheGooseIsBad() {
        for (int y : new int[] {7, 8, 10, -1, -9, Bounds.LEAST, MOST}) {
            Bounds.leaves(BAD, Bounds::busy, g -> g.touch(3, 0, y));
        }
        for (int y = 2; y <= 8; y++) {
            int none = y;
            Bounds.leaves(BAD, () -> Bounds.village("o1000 o1000"), g -> g.touch(0, 0, none));
        }
    }

    static void promise15_theGooseDoesNotTouch() {
        Bounds.leaves(BAD, Bounds::busy, g -> g.touch(GOOSE, 0, 0));
        Bounds.leaves(BAD, Bounds::busy, g -> g.touch(GOOSE, 0, GOOSE));
    }

    static void promise15_oneselfIsBadAheadOfState() {
        Bounds.leaves(BAD, Bounds::busy, g -> g.touch(3, 0, 3));
        Bounds.leaves(BAD, Bounds::busy, g -> g.touch(0, 0, 0));
    }

    static void promise15_whoIsStuckIsState() {
        Bounds.leaves(STATE, Bounds::busy, g -> g.touch(0, 1, GOOSE));
        Bounds.leaves(STATE, Bounds::busy, g -> g.touch(0, 1, 6));
        Bounds.leaves(STATE, Bounds::busy, g -> g.touch(0, 1, 3));
    }

    static void promise15_whomIsNotStuckIsState() {
        Bounds.leaves(STATE, Bounds::busy, g -> g.touch(3, 0, 4));
        Bounds.leaves(STATE, () -> Bounds.village("o1000 o1000"), g -> g.touch(0, 0, 1));
    }

    static void promise15_aGloveOnWhomIsNotStuckIsState() {
        Bounds.leaves(STATE, () -> Bounds.village("g1000 o1000"), g -> g.touch(0, 0, 1));
        Bounds.leaves(STATE, () -> Bounds.train("g1000 o1000", "019"), g -> g.touch(0, 0, GOOSE));
    }

    static void promise15_the60thDeedIsDone() {
        GooseTrain g = Bounds.worn(59);
        due("the 60th", g.touch(1, 0, GOOSE), 1);
        due("DEEDS", g.count(1), 60);
        due("STUCK", g.stuck(), 3);
    }

    static void promise15_the61stDeedIsFull() {
        Bounds.leaves(FULL, () -> Bounds.worn(60), g -> g.touch(1, 0, GOOSE));
        Bounds.leaves(FULL, () -> Bounds.worn(60), g -> g.touch(1, 1, 0));
    }

    static void promise15_aGloveAt59DeedsDoesNotStick() {
        Bounds.leaves(0, () -> Bounds.worn(59), g -> g.touch(2, 0, GOOSE));
    }

    static void promise15_aGloveAt60DeedsIsFull() {
        Bounds.leaves(FULL, () -> Bounds.worn(60), g -> g.touch(2, 0, GOOSE));
        Bounds.leaves(FULL, () -> Bounds.worn(60), g -> g.touch(3, 0, 0));
    }

    static void promise15_fullIsLast() {
        Bounds.leaves(STATE, () -> Bounds.worn(60), g -> g.touch(0, 0, GOOSE));
        Bounds.leaves(STATE, () -> Bounds.worn(60), g -> g.touch(1, 0, 2));
        Bounds.leaves(BAD, () -> Bounds.worn(60), g -> g.touch(1, 0, 1));
    }

    // ---- 16 laugh

    static void promise16_answersHowManyAreFreeThen() {
        String touches = "109 209 302 403 504 605";
        for (int stuck = 1; stuck <= 6; stuck++) {
            GooseTrain g = Bounds.train("o1400" + "o1000".repeat(6), touches.substring(0, 4 * stuck - 1));
            due("laugh", g.laugh(0), stuck);
            due("STUCK", g.stuck(), 0);
            due("a DEED", g.count(1), stuck + 1);
        }
    }

    static void promise16_aStuckChildFreesItself() {
        GooseTrain g = Bounds.train("c8000 o1000", "009 100");
        due("laugh", g.laugh(0), 2);
        due("STUCK", g.stuck(), 0);
    }

    static void promise16_oneCantIsState() {
        Bounds.leaves(STATE, () -> Bounds.village("c1000 o1400"), g -> g.laugh(0));
        Bounds.leaves(STATE, () -> Bounds.village("c1000 o1400"), g -> g.laugh(1));
        Bounds.leaves(STATE, () -> Bounds.train("o2400 o1000", "109"), g -> g.laugh(0));
        Bounds.leaves(STATE, () -> Bounds.train("o1364 o1000", "109"), g -> g.laugh(0));
        Bounds.leaves(STATE, () -> Bounds.train("s1400 o1000", "109"), g -> g.laugh(0));
        Bounds.leaves(STATE, () -> Bounds.train("p1400 o1000 o1000", "109 209"), g -> g.laugh(0));
        Bounds.leaves(STATE, () -> Bounds.train("o1400 o1000", "009"), g -> g.laugh(0));
    }

    static void promise16_justEnoughIsNoState() {
        due("365 days, TASTE 1", Bounds.train("o1365 o1000", "109").laugh(0), 1);
        due("SOUR of 1", Bounds.train("s1365 o1000 o1000", "109 209").laugh(0), 2);
        due("PRINCESS of 1", Bounds.train("p1365 o1000 o1000", "109 201").laugh(0), 2);
    }

    static void promise16_notTwiceWithinAYear() {
        GooseTrain g = Bounds.train("o1400 o1000", "109");
        g.laugh(0);
        Checks.touches(g, "109");
        due("on that DAY", g.laugh(0), STATE);
        g.days(364);
        due("364 days on", g.laugh(0), STATE);
        g.days(1);
        due("365 days on", g.laugh(0), 1);
    }

    static void promise16_the60thDeedIsDone() {
        GooseTrain g = Bounds.worn(59);
        due("the 60th", g.laugh(1), 1);
        due("DEEDS", g.count(1), 60);
    }

    static void promise16_the61stDeedIsFull() {
        Bounds.leaves(FULL, () -> Bounds.worn(60), g -> g.laugh(1));
        Bounds.leaves(FULL, () -> Bounds.worn(60), g -> g.laugh(4));
    }

    static void promise16_fullIsLast() {
        Bounds.leaves(STATE, () -> Bounds.worn(60), g -> g.laugh(0));
        Bounds.leaves(BAD, () -> Bounds.worn(60), g -> g.laugh(5));
    }

    static void promise16_theGooseDoesNotLaugh() {
        Bounds.leaves(BAD, Bounds::busy, g -> g.laugh(GOOSE));
    }

    // ---- 17 days

    static void promise17_daysAre0To400() {
        GooseTrain g = Bounds.village("o1000");
        due("0", g.days(0), 0);
        due("1", g.days(1), 1);
        due("400", g.days(400), 401);
        due("DEEDS", g.count(1), 3);
        due("DAY", g.count(2), 401);
    }

    static void promise17_below0OrAbove400IsBad() {
        Bounds.badOutside(0, 400, Bounds::busy, (g, n) -> g.days(n));
    }

    static void promise17_withoutPeopleIsState() {
        Bounds.leaves(STATE, GooseTrain::new, g -> g.days(0));
        Bounds.leaves(STATE, GooseTrain::new, g -> g.days(400));
        Bounds.leaves(BAD, GooseTrain::new, g -> g.days(-1));
    }

    static void promise17_inAVillageWithoutPeopleIsState() {
        Bounds.leaves(STATE, () -> Bounds.village("  "), g -> g.days(1));
    }

    private static GooseTrain late(int day) {
        GooseTrain g = Bounds.train("c1000 o1000", "109");
        for (int left = day; left > 0; left -= 400) {
            g.days(Math.min(400, left));
        }
        return g;
    }

    static void promise17_theDayIs9999AtMost() {
        due("to 9999", late(9998).days(1), 9999);
        due("from far to 9999", late(9599).days(400), 9999);
        due("at 9999", late(9999).days(0), 9999);
    }

    static void promise17_above9999IsFull() {
        Bounds.leaves(FULL, () -> late(9999), g -> g.days(1));
        Bounds.leaves(FULL, () -> late(9998), g -> g.days(2));
        Bounds.leaves(FULL, () -> late(9600), g -> g.days(400));
    }

    static void promise17_badIsAheadOfAbove9999() {
        Bounds.leaves(BAD, () -> late(9999), g -> g.days(401));
        Bounds.leaves(BAD, () -> late(9999), g -> g.days(MOST));
    }

    static void promise17_the60thDeedIsDone() {
        GooseTrain g = Bounds.worn(59);
        due("the 60th", g.days(7), 7);
        due("DEEDS", g.count(1), 60);
    }

    static void promise17_the61stDeedIsFull() {
        Bounds.leaves(FULL, () -> Bounds.worn(60), g -> g.days(0));
        Bounds.leaves(FULL, () -> Bounds.worn(60), g -> g.days(1));
    }

    static void promise17_nobodyIsFreeByIt() {
        GooseTrain g = Bounds.train("o1000 o1000", "009 110");
        g.days(400);
        due("STUCK", g.stuck(), 3);
    }

    // ---- 18 undo

    static void promise18_allFromNumber0On() {
        GooseTrain g = Bounds.train("c1007 o1000 o1000", "109 201");
        g.days(3);
        g.laugh(0);
        due("undo", g.undo(0), 4);
        due("DEEDS", g.count(1), 0);
        due("DAY", g.count(2), 0);
        due("STUCK", g.stuck(), 0);
        due("LAUGHED", Bounds.fact(g, 0, 2), 7);
    }

    static void promise18_theLastOneAlone() {
        GooseTrain g = Bounds.train("o1000 o1000", "009 110");
        due("undo", g.undo(1), 1);
        due("STUCK", g.stuck(), 1);
        due("DEEDS", g.count(1), 1);
    }

    static void promise18_fromBehindTheLastOneNoneIs() {
        Bounds.leaves(0, Bounds::busy, g -> g.undo(6));
        Bounds.leaves(0, GooseTrain::new, g -> g.undo(0));
        Bounds.leaves(0, () -> Bounds.worn(60), g -> g.undo(60));
    }

    static void promise18_numbersOfNoDeedAreBad() {
        Bounds.badOutside(0, 6, Bounds::busy, (g, n) -> g.undo(n));
        Bounds.leaves(BAD, GooseTrain::new, g -> g.undo(1));
        Bounds.leaves(BAD, () -> Bounds.worn(60), g -> g.undo(61));
    }

    static void promise18_aLaughIsUndone() {
        GooseTrain g = Bounds.train("o1400 o1000 o1000", "109 211");
        g.laugh(0);
        due("undo", g.undo(2), 1);
        due("STUCK again", g.stuck(), 6);
        due("on whom", Bounds.fact(g, 2, 3), 1);
        due("by which HAND", Bounds.fact(g, 2, 4), 1);
        due("LAUGHED", Bounds.fact(g, 0, 2), 400);
        due("can LAUGH again", g.laugh(0), 2);
    }

    static void promise18_anEarlierLaughStays() {
        GooseTrain g = Bounds.train("o1400 o1000", "109");
        g.days(5);
        g.laugh(0);
        g.days(2);
        g.days(3);
        due("undo", g.undo(4), 1);
        due("LAUGHED", Bounds.fact(g, 0, 2), 2);
        due("STUCK", g.stuck(), 0);
    }

    static void promise18_tastesStay() {
        GooseTrain g = Bounds.train("o1400 o1000", "109");
        g.taste(0, 6);
        g.days(1);
        g.taste(1, 7);
        g.undo(0);
        due("TASTE of 0", Bounds.fact(g, 0, 1), 6);
        due("TASTE of 1", Bounds.fact(g, 1, 1), 7);
    }

    static void promise18_aLaughByAnotherTasteStays() {
        GooseTrain g = Bounds.train("o1400 o1000", "109");
        g.laugh(0);
        g.days(1);
        g.taste(0, 8);
        due("undo", g.undo(2), 1);
        due("STUCK", g.stuck(), 0);
        due("LAUGHED", Bounds.fact(g, 0, 2), 0);
    }

    static void promise18_afterItThereIsRoomFor60() {
        GooseTrain g = Bounds.worn(60);
        due("undo", g.undo(59), 1);
        due("a DEED", g.days(9), 9);
        due("one more", g.days(9), FULL);
    }

    static void promise18_keptVillagesRowsAndWhatWasToldStay() {
        GooseTrain g = Bounds.busy();
        g.undo(0);
        due("kept", g.count(8), 2);
        due("ROWS", g.count(6), 3);
        due("asked", g.asked(), 2);
        due("upper", g.upper(), 4);
        due("a kept one's DEEDS", g.on(2), 4);
    }

    // ---- 19 stuck

    static void promise19_nobody() {
        Bounds.leaves(0, GooseTrain::new, g -> g.stuck());
        Bounds.leaves(0, () -> Bounds.village(Bounds.SEVEN), g -> g.stuck());
    }

    static void promise19_all() {
        Bounds.leaves(127, () -> Bounds.train(Bounds.SEVEN_ONES, "609 506 405 304 203 102 009"), g -> g.stuck());
    }

    static void promise19_some() {
        Bounds.leaves(1 + 2 + 4 + 32 + 64, Bounds::busy, g -> g.stuck());
    }

    // ---- 20 canLaugh

    static void promise20_nobody() {
        Bounds.leaves(0, GooseTrain::new, g -> g.canLaugh());
        Bounds.leaves(0, () -> Bounds.village("o1999 s1999 p1999 c1999 k1999 g1999"), g -> g.canLaugh());
    }

    static void promise20_allWhoCan() {
        Bounds.leaves(1 + 2 + 4 + 8 + 16 + 32,
            () -> Bounds.train("o1365 g1365 s1365 c8000 p1365 k1365 o1000", "619 306"), g -> g.canLaugh());
    }

    static void promise20_goesAt60Deeds() {
        Bounds.leaves(2 + 4 + 8 + 16, () -> Bounds.worn(60), g -> g.canLaugh());
    }

    // ---- 21 hang

    static void promise21_onOneOrTheGooseOrNobody() {
        Bounds.leaves(1 + 64, Bounds::busy, g -> g.hang(GOOSE));
        Bounds.leaves(2 + 32, Bounds::busy, g -> g.hang(0));
        Bounds.leaves(4, Bounds::busy, g -> g.hang(1));
        Bounds.leaves(0, Bounds::busy, g -> g.hang(6));
        Bounds.leaves(0, Bounds::busy, g -> g.hang(3));
    }

    static void promise21_allOnTheGoose() {
        Bounds.leaves(127, () -> Bounds.train(Bounds.SEVEN_ONES, "009 109 209 309 409 509 609"), g -> g.hang(GOOSE));
    }

    static void promise21_whoIsNotThereIsBad() {
        for (int y : new int[] {-9, -1, 7, 8, 10, Bounds.LEAST, MOST}) {
            Bounds.leaves(BAD, Bounds::busy, g -> g.hang(y));
        }
        Bounds.leaves(BAD, () -> Bounds.village("o1000"), g -> g.hang(1));
        Bounds.leaves(BAD, GooseTrain::new, g -> g.hang(0));
    }

    static void promise21_theGooseIsThereWithoutPeople() {
        Bounds.leaves(0, GooseTrain::new, g -> g.hang(GOOSE));
    }

    // ---- 22 train

    static void promise22_nobodyIsARowOf0() {
        GooseTrain g = Bounds.withRow(5, 6);
        due("train", g.train(0), 0);
        Checks.dueRow(g, "train", 0);
        due("a new ROW", g.train(5), 0);
        due("ROWS", g.count(6), 2);
    }

    static void promise22_byNumbersEachFollowedByItsOwn() {
        GooseTrain g = Bounds.train(Bounds.SEVEN_ONES, "609 409 106 306 001 504 206");
        due("train", g.train(0), 7);
        Checks.dueRow(g, "train", 0, 4, 5, 6, 1, 0, 2, 3);
    }

    static void promise22_aChainOfSeven() {
        GooseTrain g = Bounds.train(Bounds.SEVEN_ONES, "609 506 405 304 203 102 001");
        due("train", g.train(5), 7);
        Checks.dueRow(g, "train", 5, 6, 5, 4, 3, 2, 1, 0);
    }

    static void promise22_theRowIsAnew() {
        GooseTrain g = Bounds.train("o1000", "009");
        g.row(0, 40);
        g.lay(0, 1, 9);
        due("train", g.train(0), 1);
        Checks.dueRow(g, "train", 0, 0);
    }

    static void promise22_tellsNothingByAsked() {
        GooseTrain g = Bounds.busy();
        g.train(0);
        due("asked", g.asked(), 2);
    }

    // ---- 23 keep

    static void promise23_placesAre0To2() {
        for (int k = 0; k <= 2; k++) {
            GooseTrain g = Bounds.worn(3);
            due("keep(" + k + ")", g.keep(k), 3);
            due("kept", g.count(8), 1);
            due("on(" + k + ")", g.on(k), 3);
        }
    }

    static void promise23_below0OrAbove2IsBad() {
        Bounds.badOutside(0, 2, Bounds::busy, (g, k) -> g.keep(k));
        Bounds.leaves(BAD, GooseTrain::new, g -> g.keep(3));
    }

    static void promise23_withoutPeopleIsState() {
        Bounds.leaves(STATE, GooseTrain::new, g -> g.keep(0));
        Bounds.leaves(STATE, () -> Bounds.village(" "), g -> g.keep(2));
    }

    static void promise23_answersHowManyDeeds() {
        due("0", Bounds.village("o1000").keep(0), 0);
        due("60", Bounds.worn(60).keep(0), 60);
    }

    static void promise23_theVillageGoesOnAsItWas() {
        GooseTrain g = Bounds.busy();
        g.keep(1);
        due("STUCK", g.stuck(), 103);
        due("DEEDS", g.count(1), 6);
        due("kept", g.count(8), 3);
        due("the others stay", g.on(0), 2);
    }

    static void promise23_anotherOneInItsPlace() {
        GooseTrain g = Bounds.busy();
        g.keep(0);
        due("kept", g.count(8), 2);
        due("on", g.on(0), 6);
    }

    // ---- 24 on

    static void promise24_isAllAsItWasKept() {
        GooseTrain g = Bounds.train("c1007 o1400 o1000", "009 210");
        g.keep(1);
        long before = g.digest();
        g.taste(1, 8);
        g.days(5);
        g.laugh(0);
        due("on", g.on(1), 2);
        due("digest", g.digest(), before);
    }

    static void promise24_deedsCanBeUndoneThere() {
        GooseTrain g = Bounds.train("c1007 o1400 o1000", "009 110");
        g.days(9);
        g.keep(1);
        g.undo(0);
        due("on", g.on(1), 3);
        due("undo", g.undo(1), 2);
        due("STUCK", g.stuck(), 1);
        due("DAY", g.count(2), 0);
    }

    static void promise24_itsTouchesAreNotThoseDoneLater() {
        GooseTrain g = Bounds.train("o1000 o1000 o1000 o1000", "119 201 312");
        g.keep(1);
        g.undo(0);
        Checks.touches(g, "209 112 301");
        due("on", g.on(1), 3);
        due("undo", g.undo(2), 1);
        due("1 on THE GOOSE", Bounds.fact(g, 1, 3), GOOSE);
        due("1 by HAND 1", Bounds.fact(g, 1, 4), 1);
        due("2 on 1", Bounds.fact(g, 2, 3), 1);
        due("2 by HAND 0", Bounds.fact(g, 2, 4), 0);
        due("STUCK", g.stuck(), 2 + 4);
    }

    static void promise24_itsDeedsAreNotOfTheKindOfThoseDoneLater() {
        GooseTrain g = Bounds.train("o1000 c1000 o1000", "109 211");
        g.laugh(1);
        g.days(2);
        g.keep(1);
        g.undo(0);
        g.days(5);
        Checks.touches(g, "209 102");
        g.days(6);
        due("on", g.on(1), 4);
        due("undo", g.undo(3), 1);
        due("DAY", g.count(2), 0);
        due("STUCK", g.stuck(), 0);
        due("undo the laugh", g.undo(2), 1);
        due("STUCK again", g.stuck(), 2 + 4);
    }

    static void promise24_staysKept() {
        GooseTrain g = Bounds.busy();
        g.on(0);
        g.undo(0);
        g.taste(0, 8);
        due("again", g.on(0), 2);
        due("STUCK", g.stuck(), 3);
        due("TASTE", Bounds.fact(g, 0, 1), 3);
        due("kept", g.count(8), 2);
    }

    static void promise24_rowsTextsAndWhatWasToldStay() {
        GooseTrain g = Bounds.busy();
        g.row(2, 7);
        g.tear(0);
        g.text(2, 7);
        g.on(0);
        due("ROWS", g.count(6), 3);
        due("TEXTS", g.count(7), 4);
        due("asked", g.asked(), 2);
        due("upper", g.upper(), 4);
        due("lower", g.lower(), 5);
        due("finding", g.finding(), Bounds.SIZE);
    }

    static void promise24_below0OrAbove2IsBad() {
        Bounds.badOutside(0, 2, Bounds::busy, (g, k) -> g.on(k));
        Bounds.leaves(BAD, GooseTrain::new, g -> g.on(3));
    }

    static void promise24_aMissingOneIsNothing() {
        Bounds.finds(NOTHING, Bounds::busy, g -> g.on(1));
        for (int k = 0; k <= 2; k++) {
            int place = k;
            Bounds.finds(NOTHING, GooseTrain::new, g -> g.on(place));
        }
    }

    static void promise24_fromFullToOneThatIsNot() {
        GooseTrain g = Bounds.worn(58);
        g.keep(0);
        g.days(1);
        g.days(1);
        due("full", g.days(1), FULL);
        due("on", g.on(0), 58);
        due("goes on", g.days(1), 1);
    }

    static void promise24_nobodyIsStuckAgain() {
        GooseTrain g = Bounds.village("o1000");
        g.keep(0);
        g.touch(0, 0, GOOSE);
        due("on", g.on(0), 0);
        due("on whom", Bounds.fact(g, 0, 3), NONE);
    }
}
