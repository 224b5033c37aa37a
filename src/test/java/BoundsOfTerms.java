/** The terms of the document and its three parts behind "========": sizes, KINDS, TOUCH, SIGHT, LAUGH, FOOD, LOTS. */
final class BoundsOfTerms {
    private static final int BAD = Bounds.BAD, FINDING = Bounds.FINDING, STATE = Bounds.STATE, NONE = Bounds.NONE;
    private static final int GOOSE = Bounds.GOOSE, NOTHING = Bounds.NOTHING, SIZE = Bounds.SIZE;

    private BoundsOfTerms() {
    }

    private static void due(String call, long got, long want) {
        Bounds.due(call, got, want);
    }

    /** Every call that takes the number of a ROW. */
    private static Bounds.NumberCall[] rowCalls() {
        return new Bounds.NumberCall[] {
            (g, r) -> g.row(r, 3), (g, r) -> g.lay(r, 0, 7), (g, r) -> g.at(r, 0), (g, r) -> g.tear(r),
            (g, r) -> g.copy(r, 0, 0, 0, 0), (g, r) -> g.copy(0, 0, r, 0, 0), (g, r) -> g.mean(r),
            (g, r) -> g.train(r), (g, r) -> g.nth(0, r), (g, r) -> g.gold(3, r), (g, r) -> g.tastes(r),
            (g, r) -> g.sour(r)
        };
    }

    private static Bounds.NumberCall[] textCalls() {
        return new Bounds.NumberCall[] {
            (g, t) -> g.text(t, 3), (g, t) -> g.put(t, 0, 65), (g, t) -> g.fault(t), (g, t) -> g.village(t)
        };
    }

    /** Every call that takes the number of one of PEOPLE, as the first or the second of its numbers. */
    private static Bounds.NumberCall[] personCalls() {
        return new Bounds.NumberCall[] {
            (g, x) -> g.person(x, 0), (g, x) -> g.mark(x, 1), (g, x) -> g.taste(x, 4), (g, x) -> g.touch(x, 1, GOOSE),
            (g, x) -> g.laugh(x), (g, x) -> g.place(x, 1), (g, x) -> g.fun(x), (g, x) -> g.feed(x, 0),
            (g, x) -> g.feed(0, x), (g, x) -> g.came(x, 0), (g, x) -> g.ahead(x, 0), (g, x) -> g.ahead(0, x)
        };
    }

    static void terms_theConstants() {
        due("BAD", GooseTrain.BAD, -1);
        due("FULL", GooseTrain.FULL, -2);
        due("FINDING", GooseTrain.FINDING, -3);
        due("STATE", GooseTrain.STATE, -4);
        due("SPENT", GooseTrain.SPENT, -6);
        due("NONE", GooseTrain.NONE, -9);
    }

    static void terms_rowsAre0To5() {
        for (Bounds.NumberCall call : rowCalls()) {
            Bounds.neverBad(0, 5, Bounds::busy, call);
        }
    }

    static void terms_rowsBelow0OrAbove5AreBad() {
        for (Bounds.NumberCall call : rowCalls()) {
            Bounds.badOutside(0, 5, Bounds::busy, call);
        }
    }

    static void terms_textsAre0To3() {
        for (Bounds.NumberCall call : textCalls()) {
            Bounds.neverBad(0, 3, Bounds::busy, call);
        }
    }

    static void terms_textsBelow0OrAbove3AreBad() {
        for (Bounds.NumberCall call : textCalls()) {
            Bounds.badOutside(0, 3, Bounds::busy, call);
        }
    }

    static void terms_peopleBelow0OrAboveTheLastAreBad() {
        for (Bounds.NumberCall call : personCalls()) {
            Bounds.badOutside(0, 6, Bounds::busy, call);
            for (int x = 7; x <= 10; x++) {
                int none = x;
                Bounds.leaves(BAD, Bounds::busy, g -> call.on(g, none));
            }
        }
    }

    static void terms_theFirstWhoIsNotInASmallVillageIsBad() {
        for (Bounds.NumberCall call : personCalls()) {
            Bounds.leaves(BAD, () -> Bounds.train("o1400 o1400", "009"), g -> call.on(g, 2));
        }
    }

    static void terms_withoutPeopleNobodyIsThere() {
        for (Bounds.NumberCall call : personCalls()) {
            Bounds.leaves(BAD, GooseTrain::new, g -> call.on(g, 0));
        }
    }

    static void terms_aFindingIsCountedAndTellsWhich() {
        Bounds.finds(NOTHING, GooseTrain::new, g -> g.at(0, 0));
        Bounds.finds(NOTHING, GooseTrain::new, g -> g.fault(0));
        Bounds.finds(NOTHING, GooseTrain::new, g -> g.on(0));
        Bounds.finds(Bounds.BEYOND, Bounds::busy, g -> g.at(0, 4));
        Bounds.finds(Bounds.UNLIKE, Bounds::busy, g -> g.mark(0, 1));
        Bounds.finds(Bounds.NOUGHT, Bounds::busy, g -> g.mean(1));
        Bounds.finds(SIZE, Bounds::busy, g -> g.row(0, -1));
    }

    static void terms_badIsAheadOfAFinding() {
        Bounds.leaves(BAD, GooseTrain::new, g -> g.row(6, -1));
        Bounds.leaves(BAD, GooseTrain::new, g -> g.text(4, -1));
        Bounds.leaves(BAD, GooseTrain::new, g -> g.copy(0, 0, 6, 0, -1));
        Bounds.leaves(BAD, Bounds::busy, g -> g.mark(0, 6));
    }

    static void terms_badIsAheadOfState() {
        Bounds.leaves(BAD, GooseTrain::new, g -> g.days(401));
        Bounds.leaves(BAD, GooseTrain::new, g -> g.keep(3));
        Bounds.leaves(BAD, GooseTrain::new, g -> g.lots(41, 1));
        Bounds.leaves(BAD, Bounds::busy, g -> g.touch(0, 2, GOOSE));
        Bounds.leaves(BAD, Bounds::busy, g -> g.feed(3, 3));
    }

    static void terms_badIsAheadOfFull() {
        Bounds.leaves(BAD, () -> Bounds.worn(60), g -> g.touch(1, 2, GOOSE));
        Bounds.leaves(BAD, () -> Bounds.worn(60), g -> g.laugh(5));
        Bounds.leaves(BAD, () -> Bounds.worn(60), g -> g.days(401));
        Bounds.leaves(BAD, () -> Bounds.worn(60), g -> g.lots(0, 1));
    }

    static void terms_badFullAndStateLeaveTheLatestFinding() {
        GooseTrain g = Bounds.worn(60);
        g.row(0, -1);
        due("BAD", g.row(9, 9), BAD);
        due("FULL", g.days(0), Bounds.FULL);
        due("STATE", g.touch(0, 0, GOOSE), STATE);
        due("finding", g.finding(), SIZE);
        due("findings", g.findings(SIZE), 1);
    }

    static void terms_fractionsAreInLowestTerms() {
        GooseTrain g = Bounds.train("o1000 o1000 o1000 o1000", "009 109 209 309");
        Checks.dueFraction(g, "6 of 24", g.came(0, 0), 1, 4);
        Checks.dueFraction(g, "12 of 24", g.ahead(0, 1), 1, 2);
    }

    static void terms_aFractionOfNoneIs0By1() {
        GooseTrain g = Bounds.train("o1000 o1000 o1000 o1000", "009 100 209");
        Checks.dueFraction(g, "0 of 3", g.ahead(1, 0), 0, 1);
    }

    static void terms_aFractionOfAllIs1By1() {
        GooseTrain g = Bounds.train("o1000 o1000 o1000 o1000", "009 100 209");
        Checks.dueFraction(g, "3 of 3", g.ahead(0, 1), 1, 1);
    }

    static void terms_setsAreToldByBits() {
        GooseTrain g = Bounds.village(Bounds.SEVEN_ONES);
        for (int x = 0; x < 7; x++) {
            g.undo(0);
            g.touch(x, 0, GOOSE);
            due("the bit of " + x, g.stuck(), 1 << x);
        }
    }

    static void terms_handsHoldNothingAtFirst() {
        GooseTrain g = Bounds.village(Bounds.SEVEN);
        for (int x = 0; x < 7; x++) {
            due("on whom", Bounds.fact(g, x, 3), NONE);
            due("by which HAND", Bounds.fact(g, x, 4), NONE);
            due("DEPTH", Bounds.fact(g, x, 5), 0);
        }
    }

    static void terms_handsAre0And1() {
        for (int hand = 0; hand <= 1; hand++) {
            GooseTrain g = Bounds.village("o1000");
            due("sticks by " + hand, g.touch(0, hand, GOOSE), 1);
            due("holds by " + hand, Bounds.fact(g, 0, 4), hand);
        }
        Bounds.badOutside(0, 1, () -> Bounds.village("o1000"), (g, hand) -> g.touch(0, hand, GOOSE));
    }

    static void terms_onlyGlovedOnesAndCooksDoNotStickByHand0() {
        String kinds = "ogscpk";
        int[] want = {1, 0, 1, 1, 1, 0};
        for (int kind = 0; kind < 6; kind++) {
            GooseTrain g = Bounds.village(kinds.charAt(kind) + "1000");
            due(kinds.charAt(kind) + " by HAND 0", g.touch(0, 0, GOOSE), want[kind]);
            g.undo(0);
            due(kinds.charAt(kind) + " by HAND 1", g.touch(0, 1, GOOSE), 1);
        }
    }

    static void terms_whoIsStuckCantTouchAnyMore() {
        for (int hand = 0; hand <= 1; hand++) {
            int by = hand;
            Bounds.leaves(STATE, () -> Bounds.train("o1000 o1000", "009 109"), g -> g.touch(0, by, GOOSE));
            Bounds.leaves(STATE, () -> Bounds.train("o1000 o1000", "009 109"), g -> g.touch(0, by, 1));
        }
    }

    static void terms_depthIs1OnTheGooseAnd1MoreOnEachOther() {
        GooseTrain g = Bounds.train(Bounds.SEVEN_ONES, "609 506 405 304 203 102 001");
        for (int x = 0; x < 7; x++) {
            due("DEPTH of " + x, Bounds.fact(g, x, 5), 7 - x);
        }
    }

    static void terms_aYearIs365Days() {
        due("365", Bounds.train("o1365 o1000", "109").canLaugh(), 1);
        due("364", Bounds.train("o1364 o1000", "109").canLaugh(), 0);
        due("366", Bounds.train("o1366 o1000", "109").canLaugh(), 1);
    }

    static void terms_daysThatGoByMakeAYear() {
        GooseTrain g = Bounds.train("o1000 o1000", "109");
        g.days(364);
        due("364", g.canLaugh(), 0);
        g.days(1);
        due("365", g.canLaugh(), 1);
    }

    static void terms_aOneLaughsFromTheTasteOn() {
        due("2 of 3", Bounds.train("o3400 o1000 o1000 o1000", "109 209").canLaugh(), 0);
        due("3 of 3", Bounds.train("o3400 o1000 o1000 o1000", "109 209 309").canLaugh(), 1);
        due("3 of 2", Bounds.train("o2400 o1000 o1000 o1000", "109 209 309").canLaugh(), 1);
    }

    static void terms_aGlovedOneAndACookLaughLikeAOne() {
        for (String kind : new String[] {"g", "k"}) {
            due("1 of 2", Bounds.train(kind + "2400 o1000 o1000", "109").canLaugh(), 0);
            due("2 of 2", Bounds.train(kind + "2400 o1000 o1000", "109 209").canLaugh(), 1);
            due("364 days", Bounds.train(kind + "2364 o1000 o1000", "109 209").canLaugh(), 0);
        }
    }

    static void terms_aSourOneLaughsAboveTheTaste() {
        due("2 of 2", Bounds.train("s2400 o1000 o1000 o1000", "109 209").canLaugh(), 0);
        due("3 of 2", Bounds.train("s2400 o1000 o1000 o1000", "109 209 309").canLaugh(), 1);
        due("364 days", Bounds.train("s2364 o1000 o1000 o1000", "109 209 309").canLaugh(), 0);
    }

    static void terms_aPrincessLaughsIfItIsDeeperThanTheTaste() {
        due("2 of 2, 3 STUCK", Bounds.train("p2400 o1000 o1000 o1000", "109 201 301").canLaugh(), 0);
        due("3 of 2", Bounds.train("p2400 o1000 o1000 o1000", "109 201 302").canLaugh(), 1);
        due("364 days", Bounds.train("p2364 o1000 o1000 o1000", "109 201 302").canLaugh(), 0);
    }

    static void terms_aTasteOf7IsMetBySixOthersNever() {
        String touches = "109 209 309 409 509 609";
        due("6 of 7", Bounds.train("o7400" + "o1000".repeat(6), touches).canLaugh(), 0);
        due("6 of 6", Bounds.train("o6400" + "o1000".repeat(6), touches).canLaugh(), 1);
        due("sour, 6 of 6", Bounds.train("s6400" + "o1000".repeat(6), touches).canLaugh(), 0);
        due("sour, 6 of 5", Bounds.train("s5400" + "o1000".repeat(6), touches).canLaugh(), 1);
    }

    static void terms_aChildLaughsIfAnybodyIsStuck() {
        due("nobody", Bounds.village("c8000 o1000").canLaugh(), 0);
        due("one", Bounds.train("c8000 o1000", "109").canLaugh(), 1);
        due("itself", Bounds.train("c8000 o1000", "009").canLaugh(), 1);
    }

    static void terms_aChildLaughsTwiceOnADay() {
        GooseTrain g = Bounds.train("c8000 o1000", "109");
        due("once", g.laugh(0), 1);
        Checks.touches(g, "109");
        due("twice", g.laugh(0), 1);
    }

    static void terms_whoIsStuckCantLaugh() {
        String kinds = "ogspk";
        for (int kind = 0; kind < kinds.length(); kind++) {
            String text = kinds.charAt(kind) + "1999o1000o1000";
            due(kinds.charAt(kind) + ", free", Bounds.train(text, "109 201").canLaugh(), 1);
            due(kinds.charAt(kind) + ", STUCK", Bounds.train(text, "109 201 012").canLaugh(), 0);
        }
    }

    static void terms_ifOneLaughsItHasOnThatDayAndAllAreFree() {
        GooseTrain g = Bounds.train("o1400 o1000 c1000", "109 211");
        g.days(3);
        g.laugh(0);
        g.days(4);
        due("STUCK", g.stuck(), 0);
        due("LAUGHED", Bounds.fact(g, 0, 2), 4);
        due("LAUGHED, another one", Bounds.fact(g, 1, 2), 7);
        for (int x = 0; x < 3; x++) {
            due("on whom", Bounds.fact(g, x, 3), NONE);
            due("by which HAND", Bounds.fact(g, x, 4), NONE);
        }
    }

    static void terms_lotsComeFromTheOneAheadBy48271() {
        // 48271, then 48271 * 48271 % 2147483647 = 182605794: of 4 ways number 3, of 4 ways number 2
        GooseTrain g = Bounds.village("o1000 o1000");
        due("two lots", g.lots(2, 1), 2);
        due("first: 1 by HAND 1", Bounds.fact(g, 1, 4), 1);
        due("first: on THE GOOSE", Bounds.fact(g, 1, 3), GOOSE);
        due("then: 0 by HAND 1", Bounds.fact(g, 0, 4), 1);
        due("then: on 1", Bounds.fact(g, 0, 3), 1);
    }

    static void terms_lotsOfTheGreatestSeedDoNotWrapAround() {
        // 2147483646 is -1: -48271 is 2147435376, 0 modulo 4; then -182605794 is 1964877853, 1 modulo 4
        GooseTrain g = Bounds.village("o1000 o1000");
        due("two lots", g.lots(2, 2147483646), 2);
        due("first: 0 by HAND 0", Bounds.fact(g, 0, 4), 0);
        due("first: on THE GOOSE", Bounds.fact(g, 0, 3), GOOSE);
        due("then: 1 by HAND 0", Bounds.fact(g, 1, 4), 0);
        due("then: on THE GOOSE", Bounds.fact(g, 1, 3), GOOSE);
    }

    static void terms_aFindingIsAnsweredBy3Below0() {
        due("answer", new GooseTrain().at(0, 0), FINDING);
    }
}
