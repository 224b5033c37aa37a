import java.util.Arrays;

/** The golden goose and the train of people who are stuck to it, as ../shared/DOC.md promises it. */
public final class GooseTrain {
    public static final int BAD = -1, FULL = -2, FINDING = -3, STATE = -4, SPENT = -6, NONE = -9;

    private static final int NOTHING = 1, BEYOND = 2, UNLIKE = 3, NOUGHT = 4, SIZE = 5;
    private static final int ROWS = 6, ROW_SIZE = 40, TEXTS = 4, TEXT_SIZE = 60, KEPT = 3;
    private static final int MOST_PEOPLE = 7, MOST_DEEDS = 60, GOOSE = 9, SETS = 1 << MOST_PEOPLE;
    private static final int MOST_DAYS = 400, LAST_DAY = 9999, YEAR = 365;
    private static final int MOST_TASTE = 8, MOST_WIDTH = 7, MOST_SIGHT = 7;
    private static final int MOST_FEATHERS = 99, MOST_LOTS = 40;
    private static final int BLANK = 32, FIGURE_0 = 48, ITEM = 5, PUT_MORE = 1000;
    private static final long LOT_TIMES = 48271L, LOT_MODULO = 2147483647L;
    private static final int COUNTS = 9, FACTS = 6;

    private final Strip[] rows = new Strip[ROWS];
    private final Strip[] texts = new Strip[TEXTS];
    private final Village village = new Village();
    /** As none is kept without PEOPLE, one that has none is missing. */
    private final Village[] kept = new Village[KEPT];
    private final Food food = new Food();
    private final Orders lines = new Orders();
    private final int[] findingCounts = new int[SIZE + 1];
    private int latestFinding = 0;
    private int told = 0;
    private long upperTold = 0L;
    private long lowerTold = 1L;

    public GooseTrain() {
        for (int r = 0; r < ROWS; r++) {
            rows[r] = new Strip(ROW_SIZE);
        }
        for (int t = 0; t < TEXTS; t++) {
            texts[t] = new Strip(TEXT_SIZE);
        }
        for (int k = 0; k < KEPT; k++) {
            kept[k] = new Village();
        }
    }

    // ---- 1 rows, texts, villages

    public int row(int r, int n) {
        if (!isRow(r) || n > ROW_SIZE) {
            return BAD;
        }
        if (n < 0) {
            return found(SIZE);
        }
        rows[r].layOut(n, 0);
        return n;
    }

    public int lay(int r, int i, int v) {
        if (!isRow(r)) {
            return BAD;
        }
        if (rows[r].isMissing()) {
            return found(NOTHING);
        }
        if (!rows[r].has(i)) {
            return found(BEYOND);
        }
        told = rows[r].cells[i];
        rows[r].cells[i] = v;
        return 1;
    }

    public int at(int r, int i) {
        if (!isRow(r)) {
            return BAD;
        }
        if (rows[r].isMissing()) {
            return found(NOTHING);
        }
        if (!rows[r].has(i)) {
            return found(BEYOND);
        }
        told = rows[r].cells[i];
        return 1;
    }

    public int tear(int r) {
        if (!isRow(r)) {
            return BAD;
        }
        if (rows[r].isMissing()) {
            return found(NOTHING);
        }
        rows[r].size = Strip.MISSING;
        return 1;
    }

    public int copy(int r, int i, int to, int j, int n) {
        if (!isRow(r) || !isRow(to)) {
            return BAD;
        }
        if (n < 0) {
            return found(SIZE);
        }
        if (rows[r].isMissing() || rows[to].isMissing()) {
            return found(NOTHING);
        }
        if (!rows[r].hasRun(i, n) || !rows[to].hasRun(j, n)) {
            return found(BEYOND);
        }
        System.arraycopy(rows[r].cells, i, rows[to].cells, j, n);
        return 1;
    }

    public int mean(int r) {
        if (!isRow(r)) {
            return BAD;
        }
        if (rows[r].isMissing()) {
            return found(NOTHING);
        }
        if (rows[r].size == 0) {
            return found(NOUGHT);
        }
        told = (int) (rows[r].sum() / rows[r].size);
        return 1;
    }

    public int text(int t, int n) {
        if (!isText(t) || n > TEXT_SIZE) {
            return BAD;
        }
        if (n < 0) {
            return found(SIZE);
        }
        texts[t].layOut(n, BLANK);
        return n;
    }

    public int put(int t, int i, int v) {
        if (!isText(t)) {
            return BAD;
        }
        if (texts[t].isMissing()) {
            return found(NOTHING);
        }
        if (!texts[t].has(i)) {
            return found(BEYOND);
        }
        int was = texts[t].cells[i];
        texts[t].cells[i] = (byte) v;
        return was + PUT_MORE;
    }

    public int fault(int t) {
        if (!isText(t)) {
            return BAD;
        }
        if (texts[t].isMissing()) {
            return found(NOTHING);
        }
        return Reader.faultPlace(texts[t]);
    }

    public int village(int t) {
        if (!isText(t)) {
            return BAD;
        }
        if (texts[t].isMissing()) {
            return found(NOTHING);
        }
        if (Reader.faultPlace(texts[t]) != NONE) {
            return STATE;
        }
        Reader.settle(texts[t], village);
        for (int k = 0; k < KEPT; k++) {
            kept[k].people = 0;
        }
        return village.people;
    }

    public int person(int x, int what) {
        if (!village.isPerson(x) || what < 0 || what >= FACTS) {
            return BAD;
        }
        told = fact(x, what);
        return 1;
    }

    public int mark(int x, int kind) {
        if (!village.isPerson(x) || kind <= Kind.ONE || kind >= Kind.KINDS) {
            return BAD;
        }
        if (!village.isOf(x, kind)) {
            return found(UNLIKE);
        }
        switch (kind) {
            case Kind.GLOVED:
                return village.isStuck(x) && village.hands[x] == 1 ? 1 : 0;
            case Kind.SOUR:
                return Math.max(0, village.tastes[x] + 1 - village.sight(x));
            case Kind.CHILD:
                return village.hangersOnChildren();
            case Kind.PRINCESS:
                return village.deepest();
            default:
                return Integer.bitCount(Food.fedBy(village, x) & ~(1 << x));
        }
    }

    public int taste(int x, int v) {
        if (!village.isPerson(x) || v < 1 || v > MOST_TASTE) {
            return BAD;
        }
        int was = village.tastes[x];
        village.tastes[x] = v;
        return was;
    }

    // ---- 2 deeds

    public int touch(int x, int hand, int y) {
        if (!village.isPerson(x) || (hand != 0 && hand != 1) || !village.isHold(y) || x == y) {
            return BAD;
        }
        if (village.isStuck(x) || !village.isSticky(y)) {
            return STATE;
        }
        if (village.isFull()) {
            return FULL;
        }
        if (!village.sticksBy(x, hand)) {
            return 0;
        }
        village.doDeed(Village.TOUCH, x, hand, y);
        return 1;
    }

    public int laugh(int x) {
        if (!village.isPerson(x)) {
            return BAD;
        }
        if (!village.isAmused(x)) {
            return STATE;
        }
        if (village.isFull()) {
            return FULL;
        }
        int free = village.stuckCount();
        village.doDeed(Village.LAUGH, x, 0, 0);
        return free;
    }

    public int days(int n) {
        if (n < 0 || n > MOST_DAYS) {
            return BAD;
        }
        if (village.people == 0) {
            return STATE;
        }
        if (village.isFull() || village.day + n > LAST_DAY) {
            return FULL;
        }
        village.doDeed(Village.DAYS, n, 0, 0);
        return village.day;
    }

    public int undo(int n) {
        if (n < 0 || n > village.deeds) {
            return BAD;
        }
        int undone = village.deeds - n;
        village.goBackTo(n);
        return undone;
    }

    public int stuck() {
        return village.stuckSet();
    }

    public int canLaugh() {
        int set = 0;
        for (int x = 0; x < village.people; x++) {
            if (village.isAmused(x)) {
                set |= 1 << x;
            }
        }
        return set;
    }

    public int hang(int y) {
        if (!village.isHold(y)) {
            return BAD;
        }
        return village.hangers(y);
    }

    public int train(int r) {
        if (!isRow(r)) {
            return BAD;
        }
        rows[r].layOut(0, 0);
        addHangers(village, rows[r], GOOSE, 0);
        return rows[r].size;
    }

    public int keep(int k) {
        if (!isKept(k)) {
            return BAD;
        }
        if (village.people == 0) {
            return STATE;
        }
        kept[k].become(village);
        return village.deeds;
    }

    public int on(int k) {
        if (!isKept(k)) {
            return BAD;
        }
        if (kept[k].people == 0) {
            return found(NOTHING);
        }
        village.become(kept[k]);
        return village.deeds;
    }

    // ---- 3 doors, stairs

    public int door(int width) {
        if (!isWidth(width)) {
            return BAD;
        }
        return Passage.tooWide(village, village.stuckSet(), width);
    }

    public int stairs(int length) {
        if (!isWidth(length)) {
            return BAD;
        }
        return Passage.tooDeep(village, village.stuckSet(), length);
    }

    public int part(int width, int length) {
        if (!isWidth(width) || !isWidth(length)) {
            return BAD;
        }
        told = Passage.cuts(village, width, length);
        return Integer.bitCount(told);
    }

    public int room(int width, int length) {
        if (!isWidth(width) || !isWidth(length)) {
            return BAD;
        }
        return Passage.places(village, width, length);
    }

    // ---- 4 touches to come

    public int place(int x, int depth) {
        if (!village.isPerson(x) || depth < 1 || depth > MOST_PEOPLE) {
            return BAD;
        }
        if (village.isStuck(x)) {
            return NONE;
        }
        int helpers = Math.max(0, depth - 1 - village.deepest());
        return helpers <= village.freeOthers() ? helpers + 1 : NONE;
    }

    public int fun(int x) {
        if (!village.isPerson(x)) {
            return BAD;
        }
        if (village.isStuck(x)) {
            return STATE;
        }
        if (!village.isReady(x)) {
            return NONE;
        }
        // Each touch can be made on the deepest one, so it adds 1 to a PRINCESS's SIGHT as well.
        int touches = Math.max(0, village.sightDue(x) - village.sight(x));
        return touches <= village.freeOthers() ? touches : NONE;
    }

    public int jester() {
        for (int x = 0; x < village.people; x++) {
            if (village.isAmused(x)) {
                told = village.stuckCount();
                return x;
            }
        }
        return NONE;
    }

    public int ways() {
        return village.touches();
    }

    // ---- 5 food

    public int feed(int x, int y) {
        if (!village.isPerson(x) || !village.isPerson(y) || x == y) {
            return BAD;
        }
        if (!village.isStuck(x) || !village.isStuck(y)) {
            return STATE;
        }
        return Food.passings(village, x, y);
    }

    public int spoons() {
        told = food.fewestSpoons(village);
        return Integer.bitCount(told);
    }

    // ---- 6 orders

    public int orders() {
        lines.look(village);
        tellFraction(lines.all(), 1L);
        return 1;
    }

    public int came(int x, int place) {
        if (!village.isPerson(x) || place < 0) {
            return BAD;
        }
        if (village.stuckSet() == 0) {
            return found(NOUGHT);
        }
        lines.look(village);
        tellFraction(lines.withPlace(x, place), lines.all());
        return 1;
    }

    public int ahead(int x, int y) {
        if (!village.isStuck(x) || !village.isStuck(y) || x == y) {
            return BAD;
        }
        lines.look(village);
        tellFraction(lines.withFirst(x, y), lines.all());
        return 1;
    }

    public int nth(int i, int r) {
        if (i < 0 || !isRow(r)) {
            return BAD;
        }
        lines.look(village);
        if (i >= lines.all()) {
            return found(NOUGHT);
        }
        lines.write(i, rows[r]);
        return 1;
    }

    // ---- 7 gold, tastes

    public int gold(int n, int r) {
        if (n < 0 || n > MOST_FEATHERS || !isRow(r)) {
            return BAD;
        }
        rows[r].layOut(village.people, 0);
        if (village.hangers(GOOSE) == 0) {
            return n;
        }
        Gold.deal(village, GOOSE, n, rows[r]);
        for (int depth = 1; depth <= MOST_PEOPLE; depth++) {
            Gold.dealAtDepth(village, depth, rows[r]);
        }
        return 0;
    }

    public int tastes(int r) {
        return tastesThatFit(r, 0);
    }

    public int sour(int r) {
        return tastesThatFit(r, 1);
    }

    // ---- 8 lots

    public int lots(int n, int seed) {
        if (n < 1 || n > MOST_LOTS || seed < 1 || seed >= LOT_MODULO) {
            return BAD;
        }
        if (village.people == 0) {
            return STATE;
        }
        if (village.deeds + n > MOST_DEEDS) {
            return FULL;
        }
        long number = seed;
        for (int done = 0; done < n; done++) {
            int touches = village.touches();
            if (touches <= 0) {
                return done;
            }
            number = number * LOT_TIMES % LOT_MODULO;
            village.doTouch((int) (number % touches));
        }
        return n;
    }

    // ---- 9 what is told

    public int asked() {
        return told;
    }

    public long upper() {
        return upperTold;
    }

    public long lower() {
        return lowerTold;
    }

    public int count(int what) {
        if (what < 0 || what >= COUNTS) {
            return BAD;
        }
        return counted(what);
    }

    public int finding() {
        return latestFinding;
    }

    public int findings(int f) {
        if (f < NOTHING || f > SIZE) {
            return BAD;
        }
        return findingCounts[f];
    }

    public long digest() {
        long h = 17L;
        for (int what = 0; what < COUNTS; what++) {
            h = 31L * h + counted(what);
        }
        for (int x = 0; x < village.people; x++) {
            for (int what = 0; what < FACTS; what++) {
                h = 31L * h + fact(x, what);
            }
        }
        for (int k = 0; k < KEPT; k++) {
            h = 31L * h + (kept[k].people == 0 ? -1 : kept[k].deeds);
        }
        for (int r = 0; r < ROWS; r++) {
            h = rows[r].mixInto(h);
        }
        for (int t = 0; t < TEXTS; t++) {
            h = texts[t].mixInto(h);
        }
        return h;
    }

    // ---- what the calls above share

    private static boolean isRow(int r) {
        return r >= 0 && r < ROWS;
    }

    private static boolean isText(int t) {
        return t >= 0 && t < TEXTS;
    }

    private static boolean isKept(int k) {
        return k >= 0 && k < KEPT;
    }

    private static boolean isWidth(int w) {
        return w >= 0 && w <= MOST_WIDTH;
    }

    /** Takes down one of FINDINGS 1 .. 5. */
    private int found(int finding) {
        if (finding >= NOTHING && finding <= SIZE) {
            latestFinding = finding;
            findingCounts[finding]++;
        }
        return FINDING;
    }

    private int fact(int x, int what) {
        if (!village.isPerson(x)) {
            return NONE;
        }
        switch (what) {
            case 0:
                return village.kinds[x];
            case 1:
                return village.tastes[x];
            case 2:
                return Math.min(village.daysAgo(x), LAST_DAY);
            case 3:
                return village.holds[x];
            case 4:
                return village.hands[x];
            default:
                return village.depth(x);
        }
    }

    private int counted(int what) {
        switch (what) {
            case 0:
                return village.people;
            case 1:
                return village.deeds;
            case 2:
                return village.day;
            case 3:
                return village.stuckCount();
            case 4:
                return village.deepest();
            case 5:
                return village.glovedCount();
            case 6:
                return thereOf(rows);
            case 7:
                return thereOf(texts);
            default:
                return keptCount();
        }
    }

    private static int thereOf(Strip[] strips) {
        int there = 0;
        for (int i = 0; i < strips.length; i++) {
            if (!strips[i].isMissing()) {
                there++;
            }
        }
        return there;
    }

    private int keptCount() {
        int there = 0;
        for (int k = 0; k < KEPT; k++) {
            if (kept[k].people != 0) {
                there++;
            }
        }
        return there;
    }

    /** Adds all who HANG ON y, each followed by those behind; a train is never deeper than its people. */
    private static void addHangers(Village village, Strip row, int y, int depth) {
        if (depth >= MOST_PEOPLE) {
            return;
        }
        int set = village.hangers(y);
        for (int x = 0; x < MOST_PEOPLE; x++) {
            if ((set >> x & 1) != 0) {
                row.add(x);
                addHangers(village, row, x, depth + 1);
            }
        }
    }

    /** Which TASTES fit the pairs of a ROW, if one laughs from a SIGHT of the TASTE and some more on. */
    private int tastesThatFit(int r, int more) {
        if (!isRow(r)) {
            return BAD;
        }
        if (rows[r].isMissing()) {
            return found(NOTHING);
        }
        if (rows[r].size % 2 != 0) {
            return found(SIZE);
        }
        if (!holdsPairs(rows[r])) {
            return found(UNLIKE);
        }
        int fit = 0;
        for (int taste = 1; taste <= MOST_TASTE; taste++) {
            if (fitsPairs(rows[r], taste + more)) {
                fit |= 1 << taste;
            }
        }
        return fit;
    }

    private static boolean holdsPairs(Strip row) {
        for (int i = 0; i + 1 < row.size; i += 2) {
            int sight = row.cells[i];
            int laughed = row.cells[i + 1];
            if (sight < 0 || sight > MOST_SIGHT || laughed < 0 || laughed > 1) {
                return false;
            }
        }
        return true;
    }

    private static boolean fitsPairs(Strip row, int sightDue) {
        for (int i = 0; i + 1 < row.size; i += 2) {
            if ((row.cells[i] >= sightDue) != (row.cells[i + 1] == 1)) {
                return false;
            }
        }
        return true;
    }

    private void tellFraction(long part, long whole) {
        long divisor = commonDivisor(part, whole);
        if (divisor <= 0L) {
            return;
        }
        upperTold = part / divisor;
        lowerTold = whole / divisor;
    }

    private static long commonDivisor(long a, long b) {
        long big = a;
        long small = b;
        for (int i = 0; i < 100 && small != 0L; i++) {
            long rest = big % small;
            big = small;
            small = rest;
        }
        return big;
    }

    /** A ROW or a TEXT: up to so many numbers, or missing. */
    private static final class Strip {
        static final int MISSING = -1;
        final int[] cells;
        int size = MISSING;

        Strip(int most) {
            cells = new int[Math.max(0, most)];
        }

        boolean isMissing() {
            return size < 0;
        }

        boolean has(int i) {
            return i >= 0 && i < size;
        }

        /** Whether there are n places from i on; no sum of both, as that could wrap around. */
        boolean hasRun(int i, int n) {
            return i >= 0 && n >= 0 && i <= size && n <= size - i;
        }

        void layOut(int n, int v) {
            if (n < 0 || n > cells.length) {
                return;
            }
            size = n;
            Arrays.fill(cells, v);
        }

        void add(int v) {
            if (size >= 0 && size < cells.length) {
                cells[size] = v;
                size++;
            }
        }

        long sum() {
            long sum = 0L;
            for (int i = 0; i < size; i++) {
                sum += cells[i];
            }
            return sum;
        }

        long mixInto(long h) {
            long mixed = 31L * h + size;
            for (int i = 0; i < size; i++) {
                mixed = 31L * mixed + cells[i];
            }
            return mixed;
        }
    }

    /** The KINDS of PEOPLE: each IS also of the KIND that it comes from. */
    private static final class Kind {
        static final int ONE = 0, GLOVED = 1, SOUR = 2, CHILD = 3, PRINCESS = 4, COOK = 5, KINDS = 6;
        private static final int[] LETTERS = {111, 103, 115, 99, 112, 107};
        private static final int[] COMES_FROM = {NONE, ONE, ONE, ONE, SOUR, GLOVED};

        static int ofLetter(int sign) {
            for (int kind = 0; kind < LETTERS.length; kind++) {
                if (LETTERS[kind] == sign) {
                    return kind;
                }
            }
            return NONE;
        }

        static boolean isA(int kind, int wanted) {
            int now = kind;
            for (int i = 0; i < KINDS && now >= 0 && now < COMES_FROM.length; i++) {
                if (now == wanted) {
                    return true;
                }
                now = COMES_FROM[now];
            }
            return false;
        }
    }

    /** Reads the small language in which a TEXT tells a VILLAGE. */
    private static final class Reader {
        static int faultPlace(Strip text) {
            int within = 0;
            int people = 0;
            for (int place = 0; place < text.size; place++) {
                int sign = text.cells[place];
                if (within == 0 && sign == BLANK) {
                    continue;
                }
                if (people == MOST_PEOPLE || !canStand(sign, within)) {
                    return place;
                }
                within++;
                if (within == ITEM) {
                    within = 0;
                    people++;
                }
            }
            return within == 0 ? NONE : text.size;
        }

        private static boolean canStand(int sign, int within) {
            if (within == 0) {
                return Kind.ofLetter(sign) != NONE;
            }
            int figure = sign - FIGURE_0;
            if (within == 1) {
                return figure >= 1 && figure <= MOST_TASTE;
            }
            return figure >= 0 && figure <= 9;
        }

        /** Only for a TEXT without a FAULT: there a letter stands nowhere but at the head of an item. */
        static void settle(Strip text, Village village) {
            village.people = 0;
            for (int place = 0; place + ITEM <= text.size; place++) {
                int kind = Kind.ofLetter(text.cells[place]);
                if (kind != NONE) {
                    int ago = 0;
                    for (int i = place + 2; i < place + ITEM; i++) {
                        ago = 10 * ago + text.cells[i] - FIGURE_0;
                    }
                    village.addPerson(kind, text.cells[place + 1] - FIGURE_0, ago);
                }
            }
            village.startAnew();
        }
    }

    /** PEOPLE, the DAY and the DEEDS: all that keep() keeps. */
    private static final class Village {
        static final int TOUCH = 0, LAUGH = 1, DAYS = 2;
        int people = 0;
        int day = 0;
        int deeds = 0;
        final int[] kinds = new int[MOST_PEOPLE];
        final int[] tastes = new int[MOST_PEOPLE];
        /** On which DAY one laughed last, by the TEXT (0 or below) and by now. */
        final int[] firstLaughs = new int[MOST_PEOPLE];
        final int[] laughs = new int[MOST_PEOPLE];
        /** On whom one HANGS, and by which HAND; NONE for both while one is not STUCK. */
        final int[] holds = new int[MOST_PEOPLE];
        final int[] hands = new int[MOST_PEOPLE];
        final int[] deedSorts = new int[MOST_DEEDS];
        /** Who did it; of DAYS: how many. */
        final int[] deedWho = new int[MOST_DEEDS];
        final int[] deedHands = new int[MOST_DEEDS];
        final int[] deedWhom = new int[MOST_DEEDS];

        void addPerson(int kind, int taste, int ago) {
            if (people < 0 || people >= MOST_PEOPLE) {
                return;
            }
            kinds[people] = kind;
            tastes[people] = taste;
            firstLaughs[people] = -ago;
            people++;
        }

        void startAnew() {
            day = 0;
            deeds = 0;
            System.arraycopy(firstLaughs, 0, laughs, 0, MOST_PEOPLE);
            freeAll();
        }

        private void freeAll() {
            Arrays.fill(holds, NONE);
            Arrays.fill(hands, NONE);
        }

        void become(Village other) {
            people = other.people;
            day = other.day;
            deeds = other.deeds;
            System.arraycopy(other.kinds, 0, kinds, 0, MOST_PEOPLE);
            System.arraycopy(other.tastes, 0, tastes, 0, MOST_PEOPLE);
            System.arraycopy(other.firstLaughs, 0, firstLaughs, 0, MOST_PEOPLE);
            System.arraycopy(other.laughs, 0, laughs, 0, MOST_PEOPLE);
            System.arraycopy(other.holds, 0, holds, 0, MOST_PEOPLE);
            System.arraycopy(other.hands, 0, hands, 0, MOST_PEOPLE);
            System.arraycopy(other.deedSorts, 0, deedSorts, 0, MOST_DEEDS);
            System.arraycopy(other.deedWho, 0, deedWho, 0, MOST_DEEDS);
            System.arraycopy(other.deedHands, 0, deedHands, 0, MOST_DEEDS);
            System.arraycopy(other.deedWhom, 0, deedWhom, 0, MOST_DEEDS);
        }

        boolean isFull() {
            return deeds >= MOST_DEEDS;
        }

        void doDeed(int sort, int who, int hand, int whom) {
            if (deeds < 0 || deeds >= MOST_DEEDS) {
                return;
            }
            deedSorts[deeds] = sort;
            deedWho[deeds] = who;
            deedHands[deeds] = hand;
            deedWhom[deeds] = whom;
            workDeed(deeds);
            deeds++;
        }

        private void workDeed(int number) {
            if (number < 0 || number >= MOST_DEEDS) {
                return;
            }
            int who = deedWho[number];
            if (deedSorts[number] == DAYS) {
                day += who;
            } else if (isPerson(who) && deedSorts[number] == LAUGH) {
                laughs[who] = day;
                freeAll();
            } else if (isPerson(who)) {
                holds[who] = deedWhom[number];
                hands[who] = deedHands[number];
            }
        }

        /** All is as ahead of a DEED: the DEEDS before it, which asked no TASTE, are done again from the start. */
        void goBackTo(int number) {
            startAnew();
            for (int i = 0; i < number; i++) {
                workDeed(i);
            }
            deeds = number;
        }

        boolean isPerson(int x) {
            return x >= 0 && x < people && x < MOST_PEOPLE;
        }

        boolean isHold(int y) {
            return y == GOOSE || isPerson(y);
        }

        boolean isStuck(int x) {
            return x >= 0 && x < people && x < MOST_PEOPLE && holds[x] != NONE;
        }

        boolean isSticky(int y) {
            return y == GOOSE || isStuck(y);
        }

        boolean isOf(int x, int kind) {
            return isPerson(x) && Kind.isA(kinds[x], kind);
        }

        boolean sticksBy(int x, int hand) {
            return hand != 0 || !isOf(x, Kind.GLOVED);
        }

        int daysAgo(int x) {
            return isPerson(x) ? day - laughs[x] : 0;
        }

        int stuckSet() {
            int set = 0;
            for (int x = 0; x < people; x++) {
                if (isStuck(x)) {
                    set |= 1 << x;
                }
            }
            return set;
        }

        int stuckCount() {
            return Integer.bitCount(stuckSet());
        }

        int hangers(int y) {
            int set = 0;
            for (int x = 0; x < people; x++) {
                if (isStuck(x) && holds[x] == y) {
                    set |= 1 << x;
                }
            }
            return set;
        }

        int hangersOnChildren() {
            int number = 0;
            for (int y = 0; y < people; y++) {
                if (isOf(y, Kind.CHILD)) {
                    number += Integer.bitCount(hangers(y));
                }
            }
            return number;
        }

        /** One who is STUCK and all between that one and THE GOOSE; a free one's chain is empty. */
        int chain(int x) {
            int set = 0;
            int y = x;
            for (int i = 0; i < MOST_PEOPLE && isStuck(y); i++) {
                set |= 1 << y;
                y = holds[y];
            }
            return set;
        }

        int depth(int x) {
            return Integer.bitCount(chain(x));
        }

        int deepest() {
            int most = 0;
            for (int x = 0; x < people; x++) {
                most = Math.max(most, Integer.bitCount(chain(x)));
            }
            return most;
        }

        int glovedCount() {
            int number = 0;
            for (int x = 0; x < people; x++) {
                if (isOf(x, Kind.GLOVED)) {
                    number++;
                }
            }
            return number;
        }

        int sight(int x) {
            return isOf(x, Kind.PRINCESS) ? deepest() : stuckCount();
        }

        /** The least SIGHT at which one LAUGHS. */
        int sightDue(int x) {
            if (!isPerson(x) || isOf(x, Kind.CHILD)) {
                return 1;
            }
            return isOf(x, Kind.SOUR) ? tastes[x] + 1 : tastes[x];
        }

        /** Whether nothing but the SIGHT and being STUCK can keep one from laughing today. */
        boolean isReady(int x) {
            return isOf(x, Kind.CHILD) || daysAgo(x) >= YEAR;
        }

        boolean isAmused(int x) {
            boolean held = isStuck(x) && !isOf(x, Kind.CHILD);
            return isPerson(x) && !held && isReady(x) && sight(x) >= sightDue(x);
        }

        /** How many besides one who is free are free, too. */
        int freeOthers() {
            return people - stuckCount() - 1;
        }

        int touches() {
            int stickingHands = 0;
            for (int x = 0; x < people; x++) {
                if (!isStuck(x)) {
                    stickingHands += sticksBy(x, 0) ? 2 : 1;
                }
            }
            return stickingHands * (stuckCount() + 1);
        }

        /** Does the TOUCH of a number, by who, HAND, whom: each HAND that sticks has as many to lay it on. */
        void doTouch(int number) {
            int targets = stuckCount() + 1;
            int left = number;
            for (int x = 0; x < people; x++) {
                for (int hand = 0; hand < 2; hand++) {
                    if (isStuck(x) || !sticksBy(x, hand)) {
                        continue;
                    }
                    if (left < targets) {
                        doDeed(TOUCH, x, hand, targetAt(left));
                        return;
                    }
                    left -= targets;
                }
            }
        }

        private int targetAt(int number) {
            int left = number;
            for (int y = 0; y < people; y++) {
                if (isStuck(y)) {
                    if (left == 0) {
                        return y;
                    }
                    left--;
                }
            }
            return GOOSE;
        }
    }

    /** DOORS and STAIRS, for those of THE TRAIN that a set tells. */
    private static final class Passage {
        static int tooWide(Village village, int set, int width) {
            if (Integer.bitCount(village.hangers(GOOSE) & set) > width) {
                return GOOSE;
            }
            for (int y = 0; y < village.people; y++) {
                if (Integer.bitCount(village.hangers(y) & set) > width) {
                    return y;
                }
            }
            return NONE;
        }

        static int tooDeep(Village village, int set, int length) {
            int deep = 0;
            for (int x = 0; x < village.people; x++) {
                if ((set >> x & 1) != 0 && village.depth(x) > length) {
                    deep |= 1 << x;
                }
            }
            return deep;
        }

        private static boolean passes(Village village, int set, int width, int length) {
            return tooDeep(village, set, length) == 0 && tooWide(village, set, width) == NONE;
        }

        /** The fewest to cut off (all at most); sets go up, so the first of as many is the least. */
        static int cuts(Village village, int width, int length) {
            int stuck = village.stuckSet();
            int best = stuck;
            for (int cut = 0; cut < SETS; cut++) {
                boolean fewer = Integer.bitCount(cut) < Integer.bitCount(best);
                if (fewer && (cut & ~stuck) == 0 && passes(village, left(village, cut), width, length)) {
                    best = cut;
                }
            }
            return best;
        }

        private static int left(Village village, int cut) {
            int left = 0;
            for (int x = 0; x < village.people; x++) {
                if (village.isStuck(x) && (village.chain(x) & cut) == 0) {
                    left |= 1 << x;
                }
            }
            return left;
        }

        static int places(Village village, int width, int length) {
            if (!passes(village, village.stuckSet(), width, length)) {
                return 0;
            }
            int places = hasRoom(village, GOOSE, width, length) ? 1 : 0;
            for (int y = 0; y < village.people; y++) {
                if (village.isStuck(y) && hasRoom(village, y, width, length)) {
                    places++;
                }
            }
            return places;
        }

        private static boolean hasRoom(Village village, int y, int width, int length) {
            return Integer.bitCount(village.hangers(y)) < width && village.depth(y) < length;
        }
    }

    /** FOOD on its way along THE TRAIN. */
    private static final class Food {
        private final int[] fed = new int[MOST_PEOPLE];

        static int passings(Village village, int x, int y) {
            int way = way(village, x, y);
            if (way == 0) {
                return NONE;
            }
            for (int z = 0; z < village.people; z++) {
                boolean passer = z != y && (way >> z & 1) != 0;
                if (passer && village.kinds[z] == Kind.GLOVED) {
                    return NONE;
                }
            }
            return Integer.bitCount(way) - 1;
        }

        /** All on the way, both ends too; empty, if it would go by THE GOOSE. */
        private static int way(Village village, int x, int y) {
            int from = village.chain(x);
            int to = village.chain(y);
            int shared = from & to;
            for (int z = 0; z < village.people; z++) {
                if (shared != 0 && village.chain(z) == shared) {
                    return (from ^ to) | 1 << z;
                }
            }
            return 0;
        }

        /** Whom FOOD reaches from one, that one too; nobody from one who is free. */
        static int fedBy(Village village, int x) {
            int reached = 0;
            for (int y = 0; y < village.people; y++) {
                if (village.isStuck(x) && (x == y || passings(village, x, y) != NONE)) {
                    reached |= 1 << y;
                }
            }
            return reached;
        }

        /** Sets go up, so the first of as many is the least. */
        int fewestSpoons(Village village) {
            int stuck = village.stuckSet();
            for (int x = 0; x < MOST_PEOPLE; x++) {
                fed[x] = fedBy(village, x);
            }
            int best = stuck;
            for (int set = 0; set < SETS; set++) {
                boolean fewer = Integer.bitCount(set) < Integer.bitCount(best);
                if (fewer && (set & ~stuck) == 0 && fedByAll(set) == stuck) {
                    best = set;
                }
            }
            return best;
        }

        private int fedByAll(int set) {
            int all = 0;
            for (int x = 0; x < MOST_PEOPLE; x++) {
                if ((set >> x & 1) != 0) {
                    all |= fed[x];
                }
            }
            return all;
        }
    }

    /** Feathers that go along THE TRAIN; a purse tells what each one has. */
    private static final class Gold {
        static void deal(Village village, int y, int feathers, Strip purse) {
            int set = village.hangers(y);
            int hangers = Integer.bitCount(set);
            int turn = 0;
            for (int x = 0; x < village.people; x++) {
                if (hangers > 0 && purse.has(x) && (set >> x & 1) != 0) {
                    int over = turn < feathers % hangers ? 1 : 0;
                    purse.cells[x] = feathers / hangers + over;
                    turn++;
                }
            }
        }

        static void dealAtDepth(Village village, int depth, Strip purse) {
            for (int x = 0; x < village.people; x++) {
                boolean deals = village.depth(x) == depth && village.hangers(x) != 0;
                if (deals && purse.has(x) && purse.cells[x] > 1) {
                    deal(village, x, purse.cells[x] - 1, purse);
                    purse.cells[x] = 1;
                }
            }
        }
    }

    /** ORDERS, counted by the sets of those who came first. */
    private static final class Orders {
        private final int[] onWhom = new int[MOST_PEOPLE];
        /** In how many rows those of a set can have come first, and all the others behind them. */
        private final int[] before = new int[SETS];
        private final int[] behind = new int[SETS];
        private int stuck = 0;

        void look(Village village) {
            stuck = village.stuckSet();
            System.arraycopy(village.holds, 0, onWhom, 0, MOST_PEOPLE);
            Arrays.fill(before, 0);
            Arrays.fill(behind, 0);
            before[0] = 1;
            for (int set = 0; set < SETS; set++) {
                for (int x = 0; x < MOST_PEOPLE; x++) {
                    if (canFollow(x, set)) {
                        before[with(set, x)] += before[set];
                    }
                }
            }
            for (int set = SETS - 1; set >= 0; set--) {
                behind[set] = set == stuck ? 1 : 0;
                for (int x = 0; x < MOST_PEOPLE; x++) {
                    if (canFollow(x, set)) {
                        behind[set] += behind[with(set, x)];
                    }
                }
            }
        }

        private static int with(int set, int x) {
            return (set | 1 << x) & SETS - 1;
        }

        private boolean canFollow(int x, int set) {
            if ((stuck >> x & 1) == 0 || (set >> x & 1) != 0) {
                return false;
            }
            int y = onWhom[x];
            return y == GOOSE || (y >= 0 && y < MOST_PEOPLE && (set >> y & 1) != 0);
        }

        int all() {
            return behind[0];
        }

        /** How many have x at a place. */
        int withPlace(int x, int place) {
            int number = 0;
            for (int set = 0; set < SETS; set++) {
                if (Integer.bitCount(set) == place) {
                    number += nextAfter(set, x);
                }
            }
            return number;
        }

        /** How many have x somewhere ahead of y. */
        int withFirst(int x, int y) {
            int number = 0;
            for (int set = 0; set < SETS; set++) {
                if ((set >> x & 1) != 0) {
                    number += nextAfter(set, y);
                }
            }
            return number;
        }

        /** How many have just those of a set first, then x. */
        private int nextAfter(int set, int x) {
            if (x < 0 || x >= MOST_PEOPLE || set < 0 || set >= SETS || !canFollow(x, set)) {
                return 0;
            }
            return before[set] * behind[with(set, x)];
        }

        /** The row of a number, which is below all(), by numbers. */
        void write(int number, Strip row) {
            row.layOut(0, 0);
            int set = 0;
            int left = number;
            for (int place = 0; place < MOST_PEOPLE; place++) {
                for (int x = 0; x < MOST_PEOPLE; x++) {
                    if (!canFollow(x, set)) {
                        continue;
                    }
                    int rows = behind[with(set, x)];
                    if (left < rows) {
                        row.add(x);
                        set = with(set, x);
                        break;
                    }
                    left -= rows;
                }
            }
        }
    }
}
