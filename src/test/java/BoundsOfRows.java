/** Promises 1 to 9: a new object, ROWS, TEXTS. */
final class BoundsOfRows {
    private static final int BAD = Bounds.BAD, NOTHING = Bounds.NOTHING, BEYOND = Bounds.BEYOND;
    private static final int NOUGHT = Bounds.NOUGHT, SIZE = Bounds.SIZE, MOST = Bounds.MOST, LEAST = Bounds.LEAST;

    private BoundsOfRows() {
    }

    private static void due(String call, long got, long want) {
        Bounds.due(call, got, want);
    }

    // ---- 1 a new object

    static void promise01_noRowIsThere() {
        for (int r = 0; r < 6; r++) {
            int row = r;
            Bounds.finds(NOTHING, GooseTrain::new, g -> g.at(row, 0));
            Bounds.finds(NOTHING, GooseTrain::new, g -> g.tear(row));
        }
        due("count", new GooseTrain().count(6), 0);
    }

    static void promise01_noTextIsThere() {
        for (int t = 0; t < 4; t++) {
            int text = t;
            Bounds.finds(NOTHING, GooseTrain::new, g -> g.put(text, 0, 65));
            Bounds.finds(NOTHING, GooseTrain::new, g -> g.fault(text));
        }
        due("count", new GooseTrain().count(7), 0);
    }

    static void promise01_noPeopleAreThere() {
        GooseTrain g = new GooseTrain();
        due("count", g.count(0), 0);
        due("person", g.person(0, 0), BAD);
        due("STUCK", g.stuck(), 0);
        due("can LAUGH", g.canLaugh(), 0);
        due("HANG ON THE GOOSE", g.hang(9), 0);
        due("ways", g.ways(), 0);
    }

    static void promise01_theDayIs0() {
        due("DAY", new GooseTrain().count(2), 0);
        due("DAY of the first village", Bounds.village("o1000").count(2), 0);
    }

    static void promise01_noDeedsAndNothingKept() {
        GooseTrain g = new GooseTrain();
        due("DEEDS", g.count(1), 0);
        due("undone", g.undo(0), 0);
        due("kept", g.count(8), 0);
        for (int k = 0; k < 3; k++) {
            Checks.dueFinding(g, "on", g.on(k), NOTHING);
        }
    }

    static void promise01_objectsShareNothing() {
        GooseTrain g = new GooseTrain();
        Bounds.busy();
        due("count of ROWS", g.count(6), 0);
        due("count of PEOPLE", g.count(0), 0);
        due("asked", g.asked(), 0);
        due("finding", g.finding(), 0);
    }

    // ---- 2 row

    static void promise02_answersHowManyFrom0To40() {
        for (int n = 0; n <= 40; n++) {
            due("row of " + n, new GooseTrain().row(0, n), n);
        }
    }

    static void promise02_above40IsBad() {
        for (int n : new int[] {41, 42, 60, MOST}) {
            Bounds.leaves(BAD, Bounds::busy, g -> g.row(0, n));
            Bounds.leaves(BAD, GooseTrain::new, g -> g.row(0, n));
        }
    }

    static void promise02_below0IsSize() {
        for (int n : new int[] {-1, -2, LEAST}) {
            Bounds.finds(SIZE, Bounds::busy, g -> g.row(0, n));
            Bounds.finds(SIZE, GooseTrain::new, g -> g.row(0, n));
        }
    }

    static void promise02_badIsAheadOfSize() {
        Bounds.leaves(BAD, Bounds::busy, g -> g.row(6, -1));
        Bounds.leaves(BAD, Bounds::busy, g -> g.row(-1, -1));
    }

    static void promise02_allPlacesAre0() {
        GooseTrain g = new GooseTrain();
        g.row(0, 40);
        for (int i = 0; i < 40; i++) {
            due("place " + i, Bounds.told(g, g.at(0, i)), 0);
        }
    }

    static void promise02_anotherRowInItsPlaceIsAllNew() {
        GooseTrain g = Bounds.withRow(5, 6, 7);
        due("smaller", g.row(0, 2), 2);
        Checks.dueRow(g, "smaller", 0, 0, 0);
        g.lay(0, 1, 9);
        due("greater", g.row(0, 4), 4);
        Checks.dueRow(g, "greater", 0, 0, 0, 0, 0);
        due("as many", g.count(6), 1);
    }

    static void promise02_aRowOf0IsThere() {
        GooseTrain g = new GooseTrain();
        g.row(0, 0);
        due("count", g.count(6), 1);
        Checks.dueFinding(g, "no place", g.at(0, 0), BEYOND);
    }

    // ---- 3 lay

    static void promise03_tellsWhatItWas() {
        GooseTrain g = Bounds.withRow(0, 0, 0);
        due("was 0", Bounds.told(g, g.lay(0, 1, MOST)), 0);
        due("was the most", Bounds.told(g, g.lay(0, 1, LEAST)), MOST);
        due("was the least", Bounds.told(g, g.lay(0, 1, -1)), LEAST);
        Checks.dueRow(g, "the others are as they were", 0, 0, -1, 0);
    }

    static void promise03_theFirstAndTheLastPlaceAreThere() {
        GooseTrain g = new GooseTrain();
        g.row(5, 40);
        due("first", g.lay(5, 0, 1), 1);
        due("last", g.lay(5, 39, 2), 1);
        due("first laid", Bounds.told(g, g.at(5, 0)), 1);
        due("last laid", Bounds.told(g, g.at(5, 39)), 2);
    }

    static void promise03_aPlaceThatThereIsNotIsBeyond() {
        for (int i : new int[] {-1, 4, 5, 39, 40, LEAST, MOST}) {
            Bounds.finds(BEYOND, Bounds::busy, g -> g.lay(0, i, 8));
        }
        Bounds.finds(BEYOND, Bounds::busy, g -> g.lay(5, 40, 8));
        Bounds.finds(BEYOND, Bounds::busy, g -> g.lay(1, 0, 8));
    }

    static void promise03_aMissingRowIsNothingAheadOfBeyond() {
        for (int i : new int[] {0, -1, 40}) {
            Bounds.finds(NOTHING, Bounds::busy, g -> g.lay(2, i, 8));
        }
    }

    static void promise03_badIsAheadOfNothing() {
        Bounds.leaves(BAD, GooseTrain::new, g -> g.lay(6, -1, 8));
        Bounds.leaves(BAD, GooseTrain::new, g -> g.lay(-1, -1, 8));
    }

    // ---- 4 at

    static void promise04_tellsThePlaceAndChangesNoRow() {
        GooseTrain g = Bounds.withRow(LEAST, 0, MOST);
        long before = g.digest();
        due("first", Bounds.told(g, g.at(0, 0)), LEAST);
        due("middle", Bounds.told(g, g.at(0, 1)), 0);
        due("last", Bounds.told(g, g.at(0, 2)), MOST);
        due("digest", g.digest(), before);
    }

    static void promise04_aPlaceThatThereIsNotIsBeyond() {
        for (int i : new int[] {-1, 4, 5, 39, 40, LEAST, MOST}) {
            Bounds.finds(BEYOND, Bounds::busy, g -> g.at(0, i));
        }
        Bounds.finds(BEYOND, Bounds::busy, g -> g.at(5, 40));
        Bounds.finds(BEYOND, Bounds::busy, g -> g.at(1, 0));
        due("the last is there", Bounds.busy().at(5, 39), 1);
    }

    static void promise04_aMissingRowIsNothingAheadOfBeyond() {
        for (int i : new int[] {0, -1, 40}) {
            Bounds.finds(NOTHING, Bounds::busy, g -> g.at(2, i));
        }
    }

    static void promise04_badIsAheadOfNothing() {
        Bounds.leaves(BAD, GooseTrain::new, g -> g.at(6, -1));
        Bounds.leaves(BAD, GooseTrain::new, g -> g.at(-1, -1));
    }

    // ---- 5 tear

    static void promise05_aTornRowIsMissing() {
        GooseTrain g = Bounds.withRow(5, 6);
        g.row(1, 0);
        due("tear", g.tear(0), 1);
        due("one left", g.count(6), 1);
        Checks.dueFinding(g, "at", g.at(0, 0), NOTHING);
        due("an empty one, too", g.tear(1), 1);
        due("none left", g.count(6), 0);
    }

    static void promise05_aRowCanBeThereAgain() {
        GooseTrain g = Bounds.withRow(5, 6);
        g.tear(0);
        due("again", g.row(0, 2), 2);
        Checks.dueRow(g, "again", 0, 0, 0);
    }

    static void promise05_aMissingRowIsNothing() {
        Bounds.finds(NOTHING, Bounds::busy, g -> g.tear(2));
        GooseTrain g = Bounds.withRow(5);
        g.tear(0);
        Checks.dueFinding(g, "torn twice", g.tear(0), NOTHING);
    }

    static void promise05_tellsNothingByAsked() {
        GooseTrain g = Bounds.withRow(5);
        g.at(0, 0);
        g.tear(0);
        due("asked", g.asked(), 5);
    }

    // ---- 6 copy

    private static GooseTrain twoRows() {
        return Bounds.row(Bounds.withRow(1, 2, 3, 4, 5), 1, 7, 8, 9);
    }

    static void promise06_asIfTakenAheadWhenItGoesOn() {
        GooseTrain g = twoRows();
        due("copy", g.copy(0, 0, 0, 1, 4), 1);
        Checks.dueRow(g, "copy", 0, 1, 1, 2, 3, 4);
    }

    static void promise06_asIfTakenAheadWhenItGoesBack() {
        GooseTrain g = twoRows();
        due("copy", g.copy(0, 1, 0, 0, 4), 1);
        Checks.dueRow(g, "copy", 0, 2, 3, 4, 5, 5);
    }

    static void promise06_toItselfInItsPlace() {
        Bounds.leaves(1, BoundsOfRows::twoRows, g -> g.copy(0, 0, 0, 0, 5));
    }

    static void promise06_toAnotherRow() {
        GooseTrain g = twoRows();
        due("copy", g.copy(0, 3, 1, 1, 2), 1);
        Checks.dueRow(g, "to", 1, 7, 4, 5);
        Checks.dueRow(g, "from", 0, 1, 2, 3, 4, 5);
    }

    static void promise06_allFortyPlaces() {
        GooseTrain g = new GooseTrain();
        g.row(0, 40);
        g.row(5, 40);
        g.lay(0, 0, 3);
        g.lay(0, 39, 4);
        due("copy", g.copy(0, 0, 5, 0, 40), 1);
        due("first", Bounds.told(g, g.at(5, 0)), 3);
        due("last", Bounds.told(g, g.at(5, 39)), 4);
        Checks.dueFinding(g, "one more", g.copy(0, 0, 5, 0, 41), BEYOND);
    }

    static void promise06_nonePlacesAreThereUpToTheEnd() {
        Bounds.leaves(1, BoundsOfRows::twoRows, g -> g.copy(0, 0, 1, 0, 0));
        Bounds.leaves(1, BoundsOfRows::twoRows, g -> g.copy(0, 5, 1, 3, 0));
        Bounds.finds(BEYOND, BoundsOfRows::twoRows, g -> g.copy(0, 6, 1, 3, 0));
        Bounds.finds(BEYOND, BoundsOfRows::twoRows, g -> g.copy(0, 5, 1, 4, 0));
    }

    static void promise06_nonePlacesOfAnEmptyRow() {
        Bounds.leaves(1, Bounds::busy, g -> g.copy(1, 0, 1, 0, 0));
        Bounds.finds(BEYOND, Bounds::busy, g -> g.copy(1, 0, 1, 0, 1));
        Bounds.finds(BEYOND, Bounds::busy, g -> g.copy(1, 1, 1, 0, 0));
    }

    static void promise06_notSoManyThereIsBeyond() {
        due("three from 2", twoRows().copy(0, 2, 1, 0, 3), 1);
        Bounds.finds(BEYOND, BoundsOfRows::twoRows, g -> g.copy(0, 3, 1, 0, 3));
        due("two to 1", twoRows().copy(0, 0, 1, 1, 2), 1);
        Bounds.finds(BEYOND, BoundsOfRows::twoRows, g -> g.copy(0, 0, 1, 2, 2));
        Bounds.finds(BEYOND, BoundsOfRows::twoRows, g -> g.copy(0, 0, 1, 0, 4));
        Bounds.finds(BEYOND, BoundsOfRows::twoRows, g -> g.copy(1, 0, 0, 0, 4));
    }

    static void promise06_fromBelow0IsBeyond() {
        for (int i : new int[] {-1, LEAST}) {
            Bounds.finds(BEYOND, BoundsOfRows::twoRows, g -> g.copy(0, i, 1, 0, 1));
            Bounds.finds(BEYOND, BoundsOfRows::twoRows, g -> g.copy(0, 0, 1, i, 1));
            Bounds.finds(BEYOND, BoundsOfRows::twoRows, g -> g.copy(0, i, 1, 0, 0));
            Bounds.finds(BEYOND, BoundsOfRows::twoRows, g -> g.copy(0, 0, 1, i, 0));
        }
    }

    static void promise06_placesDoNotWrapAround() {
        Bounds.finds(BEYOND, BoundsOfRows::twoRows, g -> g.copy(0, 1, 1, 0, MOST));
        Bounds.finds(BEYOND, BoundsOfRows::twoRows, g -> g.copy(0, MOST, 1, 0, 1));
        Bounds.finds(BEYOND, BoundsOfRows::twoRows, g -> g.copy(0, 0, 1, MOST, 1));
        Bounds.finds(BEYOND, BoundsOfRows::twoRows, g -> g.copy(0, MOST, 1, MOST, MOST));
    }

    static void promise06_below0IsSizeAheadOfNothingAndBeyond() {
        for (int n : new int[] {-1, LEAST}) {
            Bounds.finds(SIZE, BoundsOfRows::twoRows, g -> g.copy(0, 0, 1, 0, n));
            Bounds.finds(SIZE, BoundsOfRows::twoRows, g -> g.copy(2, 0, 3, 0, n));
            Bounds.finds(SIZE, BoundsOfRows::twoRows, g -> g.copy(0, 9, 1, 9, n));
        }
    }

    static void promise06_eitherMissingIsNothingAheadOfBeyond() {
        Bounds.finds(NOTHING, BoundsOfRows::twoRows, g -> g.copy(2, 0, 0, 0, 0));
        Bounds.finds(NOTHING, BoundsOfRows::twoRows, g -> g.copy(0, 0, 2, 0, 0));
        Bounds.finds(NOTHING, BoundsOfRows::twoRows, g -> g.copy(2, 0, 0, 9, 9));
        Bounds.finds(NOTHING, BoundsOfRows::twoRows, g -> g.copy(0, 9, 2, 0, 9));
    }

    static void promise06_badIsAheadOfSize() {
        Bounds.leaves(BAD, BoundsOfRows::twoRows, g -> g.copy(6, 0, 0, 0, -1));
        Bounds.leaves(BAD, BoundsOfRows::twoRows, g -> g.copy(0, 0, 6, 0, -1));
        Bounds.leaves(BAD, BoundsOfRows::twoRows, g -> g.copy(-1, 0, 2, 0, 0));
        Bounds.leaves(BAD, BoundsOfRows::twoRows, g -> g.copy(2, 0, -1, 0, 0));
    }

    // ---- 7 mean

    private static void dueMean(int want, int... cells) {
        GooseTrain g = Bounds.withRow(cells);
        due("mean", Bounds.told(g, g.mean(0)), want);
    }

    static void promise07_ofOneIsThatOne() {
        dueMean(7, 7);
        dueMean(LEAST, LEAST);
        dueMean(MOST, MOST);
    }

    static void promise07_isCut() {
        dueMean(1, 1, 2);
        dueMean(2, 2, 2, 4);
        dueMean(0, 1, 0, 0, 0);
    }

    static void promise07_belowZeroIsCutTowardsZero() {
        dueMean(-1, -1, -2);
        dueMean(0, -1, 0);
        dueMean(0, -1, 0, 0, 0);
    }

    static void promise07_theSumDoesNotWrapAround() {
        GooseTrain g = new GooseTrain();
        g.row(0, 40);
        for (int i = 0; i < 40; i++) {
            g.lay(0, i, MOST);
        }
        due("of the most", Bounds.told(g, g.mean(0)), MOST);
        for (int i = 0; i < 40; i++) {
            g.lay(0, i, LEAST);
        }
        due("of the least", Bounds.told(g, g.mean(0)), LEAST);
        dueMean(0, MOST, LEAST);
    }

    static void promise07_sharedAmongNoneIsNought() {
        Bounds.finds(NOUGHT, Bounds::busy, g -> g.mean(1));
    }

    static void promise07_aMissingRowIsNothing() {
        Bounds.finds(NOTHING, Bounds::busy, g -> g.mean(2));
    }

    // ---- 8 text

    static void promise08_answersHowManyFrom0To60() {
        for (int n = 0; n <= 60; n++) {
            due("text of " + n, new GooseTrain().text(0, n), n);
        }
    }

    static void promise08_above60IsBad() {
        for (int n : new int[] {61, 62, MOST}) {
            Bounds.leaves(BAD, Bounds::busy, g -> g.text(0, n));
            Bounds.leaves(BAD, GooseTrain::new, g -> g.text(0, n));
        }
    }

    static void promise08_below0IsSize() {
        for (int n : new int[] {-1, -2, LEAST}) {
            Bounds.finds(SIZE, Bounds::busy, g -> g.text(0, n));
            Bounds.finds(SIZE, GooseTrain::new, g -> g.text(0, n));
        }
    }

    static void promise08_badIsAheadOfSize() {
        Bounds.leaves(BAD, Bounds::busy, g -> g.text(4, -1));
        Bounds.leaves(BAD, Bounds::busy, g -> g.text(-1, -1));
    }

    static void promise08_allAreBlanks() {
        GooseTrain g = new GooseTrain();
        g.text(3, 60);
        for (int i = 0; i < 60; i++) {
            due("byte " + i, g.put(3, i, 65), 1032);
        }
        due("anew", g.text(3, 60), 60);
        for (int i = 0; i < 60; i++) {
            due("byte anew " + i, g.put(3, i, 65), 1032);
        }
    }

    static void promise08_aTextOf0IsThere() {
        GooseTrain g = new GooseTrain();
        g.text(0, 0);
        due("count", g.count(7), 1);
        Checks.dueFinding(g, "no byte", g.put(0, 0, 65), BEYOND);
    }

    // ---- 9 put

    private static void dueByte(int v, int want) {
        GooseTrain g = new GooseTrain();
        g.text(0, 1);
        g.put(0, 0, v);
        due("byte of " + v, g.put(0, 0, 0), want + 1000);
    }

    static void promise09_isCutToAByte() {
        dueByte(0, 0);
        dueByte(127, 127);
        dueByte(128, -128);
        dueByte(255, -1);
        dueByte(256, 0);
        dueByte(-1, -1);
        dueByte(-128, -128);
        dueByte(-129, 127);
        dueByte(65536 + 65, 65);
        dueByte(MOST, -1);
        dueByte(LEAST, 0);
    }

    static void promise09_theFirstAndTheLastByteAreThere() {
        GooseTrain g = new GooseTrain();
        g.text(3, 60);
        due("first", g.put(3, 0, 65), 1032);
        due("last", g.put(3, 59, 66), 1032);
        due("first again", g.put(3, 0, 0), 1065);
        due("last again", g.put(3, 59, 0), 1066);
        due("between", g.put(3, 58, 0), 1032);
    }

    static void promise09_aPlaceThatThereIsNotIsBeyond() {
        for (int i : new int[] {-1, 3, 4, 60, LEAST, MOST}) {
            Bounds.finds(BEYOND, Bounds::busy, g -> g.put(1, i, 65));
        }
        Bounds.finds(BEYOND, Bounds::busy, g -> g.put(3, 60, 65));
        due("the last is there", Bounds.busy().put(1, 2, 65), 1120);
    }

    static void promise09_aMissingTextIsNothingAheadOfBeyond() {
        for (int i : new int[] {0, -1, 60}) {
            Bounds.finds(NOTHING, Bounds::busy, g -> g.put(2, i, 65));
        }
    }

    static void promise09_badIsAheadOfNothing() {
        Bounds.leaves(BAD, GooseTrain::new, g -> g.put(4, -1, 65));
        Bounds.leaves(BAD, GooseTrain::new, g -> g.put(-1, -1, 65));
    }

    static void promise09_tellsNothingByAsked() {
        GooseTrain g = Bounds.withRow(5);
        g.at(0, 0);
        g.text(0, 1);
        g.put(0, 0, 65);
        due("asked", g.asked(), 5);
    }
}
