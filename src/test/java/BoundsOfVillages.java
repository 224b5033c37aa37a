/** Promises 10 to 14: the small language, PEOPLE, what they tell, TASTES. */
final class BoundsOfVillages {
    private static final int BAD = Bounds.BAD, STATE = Bounds.STATE, NONE = Bounds.NONE, GOOSE = Bounds.GOOSE;
    private static final int NOTHING = Bounds.NOTHING, UNLIKE = Bounds.UNLIKE, MOST = Bounds.MOST;

    private BoundsOfVillages() {
    }

    private static void due(String call, long got, long want) {
        Bounds.due(call, got, want);
    }

    private static GooseTrain written(String text) {
        GooseTrain g = new GooseTrain();
        Checks.write(g, 3, text);
        return g;
    }

    private static void dueFault(String text, int want) {
        due("fault of '" + text + "'", written(text).fault(3), want);
    }

    // ---- 10 fault

    static void promise10_anEmptyTextHasNone() {
        dueFault("", NONE);
    }

    static void promise10_blanksAloneHaveNone() {
        dueFault(" ", NONE);
        dueFault(" ".repeat(60), NONE);
    }

    static void promise10_asManyBlanksAsWantedAheadBetweenBehind() {
        dueFault("o1000", NONE);
        dueFault("   o1000   g2999   ", NONE);
        dueFault("o1000g2999", NONE);
        dueFault(" ".repeat(55) + "o1000", NONE);
        dueFault("o1000" + " ".repeat(55), NONE);
    }

    static void promise10_noBlankWithinAnItem() {
        dueFault("o 1000", 1);
        dueFault("o1 000", 2);
        dueFault("o10 00", 3);
        dueFault("o100 0", 4);
    }

    static void promise10_eachSignThatIsNoLetterOfAKindIsAFault() {
        for (int sign = -128; sign <= 127; sign++) {
            GooseTrain g = written("?1000");
            g.put(3, 0, sign);
            boolean kind = sign == 111 || sign == 103 || sign == 115 || sign == 99 || sign == 112 || sign == 107;
            int blankGoesOn = sign == 32 ? 1 : 0;
            due("sign " + sign, g.fault(3), kind ? NONE : blankGoesOn);
        }
    }

    static void promise10_theTasteIs1To8() {
        for (int sign = -128; sign <= 127; sign++) {
            GooseTrain g = written("o?000");
            g.put(3, 1, sign);
            due("sign " + sign, g.fault(3), sign >= '1' && sign <= '8' ? NONE : 1);
        }
    }

    static void promise10_daysAreThreeFiguresOf0To9() {
        for (int place = 2; place <= 4; place++) {
            for (int sign = -128; sign <= 127; sign++) {
                GooseTrain g = written("o1000");
                g.put(3, place, sign);
                due("sign " + sign, g.fault(3), sign >= '0' && sign <= '9' ? NONE : place);
            }
        }
    }

    static void promise10_aFourthFigureIsNoLetter() {
        dueFault("o10000", 5);
        dueFault("o1000 0", 6);
    }

    static void promise10_anEndWithinAnItemIsTheSize() {
        dueFault("o", 1);
        dueFault("o1", 2);
        dueFault("o10", 3);
        dueFault("o100", 4);
        dueFault("  o1000 o1", 10);
        dueFault(" ".repeat(59) + "o", 60);
    }

    static void promise10_theFirstOfSeveralIsTold() {
        dueFault("x0x", 0);
        dueFault("o9x", 1);
        dueFault("o1000 x o9", 6);
    }

    static void promise10_sevenAreNoFault() {
        dueFault("o1000".repeat(7), NONE);
        dueFault("o1000".repeat(7) + " ".repeat(25), NONE);
        dueFault(" o1000".repeat(7) + "  ", NONE);
    }

    static void promise10_anEighthIsAFaultAtItsLetter() {
        dueFault("o1000".repeat(8), 35);
        dueFault("o1000".repeat(7) + "o", 35);
        dueFault("o1000".repeat(7) + "   k1000", 38);
        dueFault(" o1000".repeat(8), 43);
    }

    static void promise10_aWrongSignBehindSevenIsAFaultAtItsPlace() {
        dueFault("o1000".repeat(7) + " x", 36);
    }

    static void promise10_onlyLooks() {
        Bounds.leaves(NONE, Bounds::busy, g -> g.fault(0));
        Bounds.leaves(2, Bounds::busy, g -> g.fault(1));
    }

    static void promise10_aMissingTextIsNothing() {
        Bounds.finds(NOTHING, Bounds::busy, g -> g.fault(2));
    }

    // ---- 11 village

    static void promise11_answersHowManyFrom0To7() {
        for (int n = 0; n <= 7; n++) {
            GooseTrain g = written("o1000".repeat(n));
            due("village of " + n, g.village(3), n);
            due("PEOPLE", g.count(0), n);
        }
    }

    static void promise11_peopleAreAsTheyCome() {
        GooseTrain g = written(" o1001g2023  s3300 c4999p5000 k6100o8765 ");
        g.village(3);
        int[] tastes = {1, 2, 3, 4, 5, 6, 8};
        int[] days = {1, 23, 300, 999, 0, 100, 765};
        for (int x = 0; x < 7; x++) {
            due("KIND", Bounds.fact(g, x, 0), x % 6);
            due("TASTE", Bounds.fact(g, x, 1), tastes[x]);
            due("days", Bounds.fact(g, x, 2), days[x]);
        }
    }

    static void promise11_isAnew() {
        GooseTrain g = Bounds.busy();
        due("village", g.village(0), 7);
        due("DEEDS", g.count(1), 0);
        due("DAY", g.count(2), 0);
        due("STUCK", g.count(3), 0);
        due("kept", g.count(8), 0);
        due("TASTE", Bounds.fact(g, 2, 1), 2);
        due("nothing to undo", g.undo(1), BAD);
    }

    static void promise11_keptVillagesGo() {
        GooseTrain g = Bounds.busy();
        g.village(0);
        for (int k = 0; k < 3; k++) {
            Checks.dueFinding(g, "on(" + k + ")", g.on(k), NOTHING);
        }
    }

    static void promise11_rowsAndTextsAndWhatWasToldStay() {
        GooseTrain g = Bounds.busy();
        g.village(0);
        due("ROWS", g.count(6), 3);
        due("TEXTS", g.count(7), 3);
        due("asked", g.asked(), 2);
        due("upper", g.upper(), 4);
        due("lower", g.lower(), 5);
        due("finding", g.finding(), Bounds.SIZE);
    }

    static void promise11_itsTextCanChangeLater() {
        GooseTrain g = Bounds.village("o1000");
        g.put(0, 0, 'k');
        due("KIND", Bounds.fact(g, 0, 0), 0);
        g.text(0, 0);
        due("PEOPLE", g.count(0), 1);
    }

    static void promise11_aTextWithoutItemsIsAVillageWithoutPeople() {
        GooseTrain g = Bounds.busy();
        due("blanks", g.village(3), 0);
        due("PEOPLE", g.count(0), 0);
        due("STUCK", g.stuck(), 0);
        due("ways", g.ways(), 0);
    }

    static void promise11_aFaultIsState() {
        Bounds.leaves(STATE, Bounds::busy, g -> g.village(1));
        for (String text : new String[] {"o", "o1000 x", "o9000", "o1000".repeat(8)}) {
            Bounds.leaves(STATE, () -> written(text), g -> g.village(3));
        }
    }

    static void promise11_aMissingTextIsNothing() {
        Bounds.finds(NOTHING, Bounds::busy, g -> g.village(2));
        Bounds.finds(NOTHING, GooseTrain::new, g -> g.village(0));
    }

    // ---- 12 person

    static void promise12_whatIs0To5() {
        Bounds.neverBad(0, 5, Bounds::busy, (g, what) -> g.person(0, what));
        Bounds.badOutside(0, 5, Bounds::busy, (g, what) -> g.person(0, what));
    }

    static void promise12_changesNothingButAsked() {
        GooseTrain g = Bounds.busy();
        long before = g.digest();
        for (int what = 0; what <= 5; what++) {
            g.person(0, what);
        }
        due("digest", g.digest(), before);
    }

    static void promise12_theLastOneIsThere() {
        due("six", Bounds.village(Bounds.SEVEN).person(6, 0), 1);
        Bounds.leaves(BAD, () -> Bounds.village(Bounds.SEVEN), g -> g.person(7, 0));
        Bounds.leaves(BAD, () -> Bounds.village(Bounds.SEVEN), g -> g.person(GOOSE, 0));
    }

    static void promise12_the0thFigureIsTheKind() {
        GooseTrain g = Bounds.village("o1000 g1000 s1000 c1000 p1000 k1000");
        for (int x = 0; x < 6; x++) {
            due("KIND", Bounds.fact(g, x, 0), x);
        }
    }

    static void promise12_daysAgoAre9999AtMost() {
        GooseTrain g = Bounds.village("o1998 o1999 c1000");
        for (int i = 0; i < 22; i++) {
            g.days(400);
        }
        g.days(200);
        due("9998", Bounds.fact(g, 0, 2), 9998);
        due("9999", Bounds.fact(g, 1, 2), 9999);
        g.days(1);
        due("9999 by then", Bounds.fact(g, 0, 2), 9999);
        due("10000", Bounds.fact(g, 1, 2), 9999);
    }

    static void promise12_daysAgoBeyond9999StillCount() {
        GooseTrain g = Bounds.village("o1999 c1000");
        for (int i = 0; i < 24; i++) {
            g.days(400);
        }
        due("cut", Bounds.fact(g, 0, 2), 9999);
        g.undo(1);
        due("as it was", Bounds.fact(g, 0, 2), 1399);
    }

    static void promise12_onWhomByWhichHandHowDeep() {
        GooseTrain g = Bounds.train("o1000 k1000 o1000", "119 001");
        due("on THE GOOSE", Bounds.fact(g, 1, 3), GOOSE);
        due("by HAND 1", Bounds.fact(g, 1, 4), 1);
        due("DEPTH 1", Bounds.fact(g, 1, 5), 1);
        due("on 1", Bounds.fact(g, 0, 3), 1);
        due("by HAND 0", Bounds.fact(g, 0, 4), 0);
        due("DEPTH 2", Bounds.fact(g, 0, 5), 2);
        due("on none", Bounds.fact(g, 2, 3), NONE);
        due("by none", Bounds.fact(g, 2, 4), NONE);
        due("DEPTH 0", Bounds.fact(g, 2, 5), 0);
    }

    // ---- 13 mark

    static void promise13_kindsAre1To5() {
        Bounds.neverBad(1, 5, Bounds::busy, (g, kind) -> g.mark(0, kind));
        Bounds.badOutside(1, 5, Bounds::busy, (g, kind) -> g.mark(0, kind));
    }

    static void promise13_kind0IsBad() {
        for (int x = 0; x < 7; x++) {
            int one = x;
            Bounds.leaves(BAD, Bounds::busy, g -> g.mark(one, 0));
        }
    }

    static void promise13_whoIsOfAnotherKindIsUnlike() {
        boolean[][] is = {
            {false, false, false, false, false}, {true, false, false, false, false},
            {false, true, false, false, false}, {false, false, true, false, false},
            {false, true, false, true, false}, {true, false, false, false, true}
        };
        for (int x = 0; x < 6; x++) {
            for (int kind = 1; kind <= 5; kind++) {
                int one = x;
                int of = kind;
                if (!is[x][kind - 1]) {
                    Bounds.finds(UNLIKE, Bounds::busy, g -> g.mark(one, of));
                } else {
                    due("mark", Bounds.busy().mark(x, kind) >= 0 ? 1 : 0, 1);
                }
            }
        }
    }

    static void promise13_onlyLooks() {
        int[] ones = {1, 2, 3, 4, 4, 5, 5};
        int[] kinds = {1, 2, 3, 2, 4, 1, 5};
        for (int i = 0; i < ones.length; i++) {
            int one = ones[i];
            int kind = kinds[i];
            int answer = Bounds.busy().mark(one, kind);
            Bounds.leaves(answer, Bounds::busy, g -> g.mark(one, kind));
        }
    }

    static void promise13_aGlovedOneTellsWhetherHand1Holds() {
        for (String kind : new String[] {"g", "k"}) {
            GooseTrain g = Bounds.village(kind + "1000 o1000");
            due("free", g.mark(0, 1), 0);
            g.touch(0, 0, GOOSE);
            due("by HAND 0 it does not stick", g.mark(0, 1), 0);
            g.touch(0, 1, GOOSE);
            due("STUCK", g.mark(0, 1), 1);
            g.undo(0);
            due("free again", g.mark(0, 1), 0);
        }
    }

    static void promise13_aSourOneTellsHowMuchIsShort() {
        GooseTrain g = Bounds.village("s2000 o1000 o1000 o1000 o1000");
        int[] want = {3, 2, 1, 0, 0};
        for (int stuck = 0; stuck <= 4; stuck++) {
            due("of " + stuck, g.mark(0, 2), want[stuck]);
            if (stuck < 4) {
                g.touch(stuck + 1, 0, GOOSE);
            }
        }
    }

    static void promise13_aSourOneOfTasteOf8IsShortBy9() {
        due("mark", Bounds.village("s8000").mark(0, 2), 9);
        due("a PRINCESS", Bounds.village("p8000").mark(0, 2), 9);
        due("of TASTE 1", Bounds.village("s1000").mark(0, 2), 2);
    }

    static void promise13_aSourOneWhoIsStuckCountsToo() {
        due("mark", Bounds.train("s2000 o1000", "009 109").mark(0, 2), 1);
    }

    static void promise13_aPrincessIsSourByHowDeepItIs() {
        GooseTrain g = Bounds.train("p1000 o1000 o1000 o1000", "109 209 309");
        due("1 deep of 2", g.mark(0, 2), 1);
        g.undo(2);
        Checks.touches(g, "302");
        due("2 deep of 2", g.mark(0, 2), 0);
    }

    static void promise13_aChildTellsWhoHangOnAChild() {
        GooseTrain g = Bounds.village("c1000 c1000 o1000 o1000 o1000");
        due("nobody", g.mark(0, 3), 0);
        Checks.touches(g, "009");
        due("on THE GOOSE", g.mark(0, 3), 0);
        Checks.touches(g, "200 302");
        due("one on 0", g.mark(0, 3), 1);
        due("told by 1", g.mark(1, 3), 1);
        Checks.touches(g, "100 401");
        due("two on 0, one on 1", g.mark(0, 3), 3);
        due("told by 1 likewise", g.mark(1, 3), 3);
    }

    static void promise13_aPrincessTellsHowDeepTheTrainIs() {
        GooseTrain g = Bounds.village("p8000o1000o1000o1000o1000o1000o1000");
        due("nobody", g.mark(0, 4), 0);
        Checks.touches(g, "109 209 301 403 504 605");
        due("5 deep", g.mark(0, 4), 5);
        Checks.touches(g, "006");
        due("6 deep by herself", g.mark(0, 4), 6);
    }

    static void promise13_aCookTellsToHowManyOthersFoodCanGo() {
        GooseTrain g = Bounds.village("k1000 g1000 o1000 o1000 o1000 o1000");
        due("free", g.mark(0, 5), 0);
        Checks.touches(g, "019");
        due("alone", g.mark(0, 5), 0);
        Checks.touches(g, "110 201");
        due("to a GLOVED one, no further", g.mark(0, 5), 1);
        Checks.touches(g, "300 403");
        due("to others", g.mark(0, 5), 3);
        Checks.touches(g, "509");
        due("not by THE GOOSE", g.mark(0, 5), 3);
    }

    // ---- 14 taste

    static void promise14_tastesAre1To8() {
        GooseTrain g = Bounds.village("o4000");
        int was = 4;
        for (int v = 1; v <= 8; v++) {
            due("taste(" + v + ")", g.taste(0, v), was);
            due("TASTE", Bounds.fact(g, 0, 1), v);
            was = v;
        }
    }

    static void promise14_below1OrAbove8IsBad() {
        Bounds.badOutside(1, 8, Bounds::busy, (g, v) -> g.taste(0, v));
    }

    static void promise14_theSameAgain() {
        Bounds.leaves(3, Bounds::busy, g -> g.taste(0, 3));
    }

    static void promise14_isNoDeedAndTellsNothingByAsked() {
        GooseTrain g = Bounds.busy();
        int deeds = g.count(1);
        g.taste(0, 8);
        due("DEEDS", g.count(1), deeds);
        due("asked", g.asked(), 2);
    }

    static void promise14_goesAt60Deeds() {
        GooseTrain g = Bounds.worn(60);
        due("taste", g.taste(0, 8), 1);
        due("TASTE", Bounds.fact(g, 0, 1), 8);
    }

    static void promise14_isAskedByTheNextLaugh() {
        GooseTrain g = Bounds.train("o2400 o1000", "109");
        due("2", g.laugh(0), STATE);
        g.taste(0, 1);
        due("1", g.laugh(0), 1);
    }

    static void promise14_whoIsNotThereIsBad() {
        Bounds.leaves(BAD, Bounds::busy, g -> g.taste(7, 1));
        Bounds.leaves(BAD, Bounds::busy, g -> g.taste(GOOSE, 1));
        Bounds.leaves(BAD, Bounds::busy, g -> g.taste(MOST, 1));
    }
}
