import java.util.ArrayDeque;
import java.util.ArrayList;
import java.util.Arrays;
import java.util.HashMap;
import java.util.List;
import java.util.Map;
import java.util.regex.Matcher;
import java.util.regex.Pattern;

/**
 * The document a second time, in the plainest way that needs no cleverness: states kept whole for undo(),
 * touches searched breadth first, ORDERS written out one by one, FOOD handed on, feathers dealt singly.
 */
final class Model {
    static final int BAD = -1, FULL = -2, FINDING = -3, STATE = -4, NONE = -9, GOOSE = 9;
    private static final String LETTERS = "ogscpk";
    private static final Pattern VILLAGE = Pattern.compile(" *+(?:[ogscpk][1-8][0-9]{3} *+){0,7}");

    static final class People {
        int day;
        int[] kind = new int[0];
        int[] taste = new int[0];
        int[] laughed = new int[0];
        int[] on = new int[0];
        int[] hand = new int[0];
        List<People> past = new ArrayList<>();

        People same() {
            People p = new People();
            p.day = day;
            p.kind = kind.clone();
            p.taste = taste.clone();
            p.laughed = laughed.clone();
            p.on = on.clone();
            p.hand = hand.clone();
            p.past = past == null ? null : new ArrayList<>(past);
            return p;
        }
    }

    private final int[][] rows = new int[6][];
    private final byte[][] texts = new byte[4][];
    private final People[] kept = new People[3];
    private People p = new People();
    private int asked;
    private long upper;
    private long lower = 1;
    private int finding;
    private final int[] findings = new int[6];

    private int find(int f) {
        finding = f;
        findings[f]++;
        return FINDING;
    }

    private static boolean in(int v, int from, int to) {
        return v >= from && v <= to;
    }

    int row(int r, int n) {
        if (!in(r, 0, 5) || n > 40) return BAD;
        if (n < 0) return find(5);
        rows[r] = new int[n];
        return n;
    }

    int lay(int r, int i, int v) {
        if (!in(r, 0, 5)) return BAD;
        if (rows[r] == null) return find(1);
        if (!in(i, 0, rows[r].length - 1)) return find(2);
        asked = rows[r][i];
        rows[r][i] = v;
        return 1;
    }

    int at(int r, int i) {
        if (!in(r, 0, 5)) return BAD;
        if (rows[r] == null) return find(1);
        if (!in(i, 0, rows[r].length - 1)) return find(2);
        asked = rows[r][i];
        return 1;
    }

    int tear(int r) {
        if (!in(r, 0, 5)) return BAD;
        if (rows[r] == null) return find(1);
        rows[r] = null;
        return 1;
    }

    int copy(int r, int i, int to, int j, int n) {
        if (!in(r, 0, 5) || !in(to, 0, 5)) return BAD;
        if (n < 0) return find(5);
        if (rows[r] == null || rows[to] == null) return find(1);
        if (i < 0 || j < 0 || (long) i + n > rows[r].length || (long) j + n > rows[to].length) return find(2);
        int[] taken = Arrays.copyOfRange(rows[r], i, i + n);
        for (int k = 0; k < n; k++) rows[to][j + k] = taken[k];
        return 1;
    }

    int mean(int r) {
        if (!in(r, 0, 5)) return BAD;
        if (rows[r] == null) return find(1);
        if (rows[r].length == 0) return find(4);
        asked = (int) (Arrays.stream(rows[r]).asLongStream().sum() / rows[r].length);
        return 1;
    }

    int text(int t, int n) {
        if (!in(t, 0, 3) || n > 60) return BAD;
        if (n < 0) return find(5);
        texts[t] = new byte[n];
        Arrays.fill(texts[t], (byte) 32);
        return n;
    }

    int put(int t, int i, int v) {
        if (!in(t, 0, 3)) return BAD;
        if (texts[t] == null) return find(1);
        if (!in(i, 0, texts[t].length - 1)) return find(2);
        int was = texts[t][i];
        texts[t][i] = (byte) v;
        return 1000 + was;
    }

    private String read(int t) {
        StringBuilder b = new StringBuilder();
        for (byte c : texts[t]) b.append((char) (c & 255));
        return b.toString();
    }

    int fault(int t) {
        if (!in(t, 0, 3)) return BAD;
        if (texts[t] == null) return find(1);
        String s = read(t);
        for (int n = 1; n <= s.length(); n++) {
            Matcher m = VILLAGE.matcher(s.substring(0, n));
            if (!m.matches() && !m.hitEnd()) return n - 1;
        }
        return VILLAGE.matcher(s).matches() ? NONE : s.length();
    }

    int village(int t) {
        if (!in(t, 0, 3)) return BAD;
        if (texts[t] == null) return find(1);
        if (fault(t) != NONE) return STATE;
        String s = read(t).replace(" ", "");
        int n = s.length() / 5;
        p = new People();
        p.kind = new int[n];
        p.taste = new int[n];
        p.laughed = new int[n];
        p.on = new int[n];
        p.hand = new int[n];
        Arrays.fill(p.on, NONE);
        Arrays.fill(p.hand, NONE);
        for (int x = 0; x < n; x++) {
            p.kind[x] = LETTERS.indexOf(s.charAt(5 * x));
            p.taste[x] = s.charAt(5 * x + 1) - '0';
            p.laughed[x] = -Integer.parseInt(s.substring(5 * x + 2, 5 * x + 5));
        }
        Arrays.fill(kept, null);
        return n;
    }

    private int n() {
        return p.kind.length;
    }

    private boolean one(int x) {
        return in(x, 0, n() - 1);
    }

    private boolean isStuck(int x) {
        return p.on[x] != NONE;
    }

    private boolean is(int x, int kind) {
        int k = p.kind[x];
        return kind == 0 || k == kind || (k == 4 && kind == 2) || (k == 5 && kind == 1);
    }

    private static int depthIn(int[] on, int x) {
        return on[x] == NONE ? 0 : on[x] == GOOSE ? 1 : 1 + depthIn(on, on[x]);
    }

    private static int deepIn(int[] on) {
        int most = 0;
        for (int x = 0; x < on.length; x++) most = Math.max(most, depthIn(on, x));
        return most;
    }

    private static int stuckIn(int[] on) {
        int set = 0;
        for (int x = 0; x < on.length; x++) if (on[x] != NONE) set |= 1 << x;
        return set;
    }

    private boolean laughsAt(int x, int[] on) {
        int stuck = Integer.bitCount(stuckIn(on));
        int since = p.day - p.laughed[x];
        switch (p.kind[x]) {
            case 3: return stuck > 0;
            case 2: return on[x] == NONE && since >= 365 && stuck > p.taste[x];
            case 4: return on[x] == NONE && since >= 365 && deepIn(on) > p.taste[x];
            default: return on[x] == NONE && since >= 365 && stuck >= p.taste[x];
        }
    }

    private int personOf(int x, int what) {
        switch (what) {
            case 0: return p.kind[x];
            case 1: return p.taste[x];
            case 2: return Math.min(9999, p.day - p.laughed[x]);
            case 3: return p.on[x];
            case 4: return p.hand[x];
            default: return depthIn(p.on, x);
        }
    }

    int person(int x, int what) {
        if (!one(x) || !in(what, 0, 5)) return BAD;
        asked = personOf(x, what);
        return 1;
    }

    int mark(int x, int kind) {
        if (!one(x) || !in(kind, 1, 5)) return BAD;
        if (!is(x, kind)) return find(3);
        if (kind == 1) return p.hand[x] == 1 ? 1 : 0;
        if (kind == 2) {
            int sight = p.kind[x] == 4 ? deepIn(p.on) : Integer.bitCount(stuckIn(p.on));
            return sight > p.taste[x] ? 0 : p.taste[x] + 1 - sight;
        }
        if (kind == 3) {
            int number = 0;
            for (int y : p.on) if (y != NONE && y != GOOSE && p.kind[y] == 3) number++;
            return number;
        }
        if (kind == 4) return deepIn(p.on);
        int fed = 0;
        if (isStuck(x)) for (int d : handedOn(x)) if (d > 0) fed++;
        return fed;
    }

    int taste(int x, int v) {
        if (!one(x) || !in(v, 1, 8)) return BAD;
        int was = p.taste[x];
        p.taste[x] = v;
        return was;
    }

    private void remember() {
        People now = p.same();
        now.past = null;
        p.past.add(now);
    }

    int touch(int x, int hand, int y) {
        if (!one(x) || !in(hand, 0, 1) || (y != GOOSE && !one(y)) || x == y) return BAD;
        if (isStuck(x) || (y != GOOSE && !isStuck(y))) return STATE;
        if (p.past.size() >= 60) return FULL;
        if (hand == 0 && is(x, 1)) return 0;
        remember();
        p.on[x] = y;
        p.hand[x] = hand;
        return 1;
    }

    int laugh(int x) {
        if (!one(x)) return BAD;
        if (!laughsAt(x, p.on)) return STATE;
        if (p.past.size() >= 60) return FULL;
        remember();
        int free = Integer.bitCount(stuckIn(p.on));
        p.laughed[x] = p.day;
        Arrays.fill(p.on, NONE);
        Arrays.fill(p.hand, NONE);
        return free;
    }

    int days(int n) {
        if (!in(n, 0, 400)) return BAD;
        if (n() == 0) return STATE;
        if (p.past.size() >= 60 || p.day + n > 9999) return FULL;
        remember();
        p.day += n;
        return p.day;
    }

    int undo(int n) {
        if (!in(n, 0, p.past.size())) return BAD;
        int undone = p.past.size() - n;
        if (undone > 0) {
            People then = p.past.get(n).same();
            then.taste = p.taste;
            then.past = new ArrayList<>(p.past.subList(0, n));
            p = then;
        }
        return undone;
    }

    int stuck() {
        return stuckIn(p.on);
    }

    int canLaugh() {
        int set = 0;
        for (int x = 0; x < n(); x++) if (laughsAt(x, p.on)) set |= 1 << x;
        return set;
    }

    private static int hangOn(int[] on, int y) {
        int set = 0;
        for (int x = 0; x < on.length; x++) if (on[x] == y) set |= 1 << x;
        return set;
    }

    int hang(int y) {
        if (y != GOOSE && !one(y)) return BAD;
        return hangOn(p.on, y);
    }

    private void follow(int y, List<Integer> out) {
        for (int x = 0; x < n(); x++) {
            if (p.on[x] == y) {
                out.add(x);
                follow(x, out);
            }
        }
    }

    private void toRow(int r, List<Integer> values) {
        rows[r] = values.stream().mapToInt(v -> v).toArray();
    }

    int train(int r) {
        if (!in(r, 0, 5)) return BAD;
        List<Integer> out = new ArrayList<>();
        follow(GOOSE, out);
        toRow(r, out);
        return out.size();
    }

    int keep(int k) {
        if (!in(k, 0, 2)) return BAD;
        if (n() == 0) return STATE;
        kept[k] = p.same();
        return p.past.size();
    }

    int on(int k) {
        if (!in(k, 0, 2)) return BAD;
        if (kept[k] == null) return find(1);
        p = kept[k].same();
        return p.past.size();
    }

    private static int wide(int[] on, int width) {
        if (Integer.bitCount(hangOn(on, GOOSE)) > width) return GOOSE;
        for (int y = 0; y < on.length; y++) if (Integer.bitCount(hangOn(on, y)) > width) return y;
        return NONE;
    }

    int door(int width) {
        return in(width, 0, 7) ? wide(p.on, width) : BAD;
    }

    int stairs(int length) {
        if (!in(length, 0, 7)) return BAD;
        int set = 0;
        for (int x = 0; x < n(); x++) if (depthIn(p.on, x) > length) set |= 1 << x;
        return set;
    }

    private static boolean passes(int[] on, int width, int length) {
        return wide(on, width) == NONE && deepIn(on) <= length;
    }

    private static void cut(int[] on, int x) {
        on[x] = NONE;
        for (int z = 0; z < on.length; z++) if (on[z] == x) cut(on, z);
    }

    int part(int width, int length) {
        if (!in(width, 0, 7) || !in(length, 0, 7)) return BAD;
        for (int number = 0; ; number++) {
            for (int set = 0; set < 128; set++) {
                if (Integer.bitCount(set) != number || (set & ~stuck()) != 0) continue;
                int[] on = p.on.clone();
                for (int x = 0; x < on.length; x++) if ((set >> x & 1) == 1) cut(on, x);
                if (passes(on, width, length)) {
                    asked = set;
                    return number;
                }
            }
        }
    }

    int room(int width, int length) {
        if (!in(width, 0, 7) || !in(length, 0, 7)) return BAD;
        if (!passes(p.on, width, length)) return 0;
        int number = 0;
        for (int y = 0; y <= n(); y++) {
            int whom = y == n() ? GOOSE : y;
            if (whom != GOOSE && !isStuck(whom)) continue;
            int[] on = Arrays.copyOf(p.on, n() + 1);
            on[n()] = whom;
            if (passes(on, width, length)) number++;
        }
        return number;
    }

    /** All states that free people (but x) can touch themselves to, with how many touches. */
    private Map<List<Integer>, Integer> reachable(int x) {
        Map<List<Integer>, Integer> far = new HashMap<>();
        ArrayDeque<List<Integer>> queue = new ArrayDeque<>();
        List<Integer> start = new ArrayList<>();
        for (int y : p.on) start.add(y);
        far.put(start, 0);
        queue.add(start);
        while (!queue.isEmpty()) {
            List<Integer> now = queue.remove();
            for (int who = 0; who < n(); who++) {
                if (who == x || now.get(who) != NONE) continue;
                for (int whom = 0; whom <= 9; whom++) {
                    boolean sticky = whom == GOOSE || (whom < n() && now.get(whom) != NONE);
                    if (!sticky) continue;
                    List<Integer> next = new ArrayList<>(now);
                    next.set(who, whom);
                    if (far.putIfAbsent(next, far.get(now) + 1) == null) queue.add(next);
                }
            }
        }
        return far;
    }

    int place(int x, int depth) {
        if (!one(x) || !in(depth, 1, 7)) return BAD;
        if (isStuck(x)) return NONE;
        int best = NONE;
        for (Map.Entry<List<Integer>, Integer> e : reachable(x).entrySet()) {
            int[] on = e.getKey().stream().mapToInt(v -> v).toArray();
            boolean can = depth == 1;
            for (int y = 0; y < n(); y++) can |= on[y] != NONE && depthIn(on, y) == depth - 1;
            if (can && (best == NONE || e.getValue() + 1 < best)) best = e.getValue() + 1;
        }
        return best;
    }

    int fun(int x) {
        if (!one(x)) return BAD;
        if (isStuck(x)) return STATE;
        int best = NONE;
        for (Map.Entry<List<Integer>, Integer> e : reachable(x).entrySet()) {
            int[] on = e.getKey().stream().mapToInt(v -> v).toArray();
            if (laughsAt(x, on) && (best == NONE || e.getValue() < best)) best = e.getValue();
        }
        return best;
    }

    int jester() {
        int set = canLaugh();
        if (set == 0) return NONE;
        asked = Integer.bitCount(stuck());
        return Integer.numberOfTrailingZeros(set);
    }

    private List<int[]> touches() {
        List<int[]> all = new ArrayList<>();
        for (int x = 0; x < n(); x++) {
            for (int hand = 0; hand < 2; hand++) {
                for (int y = 0; y <= 9; y++) {
                    boolean sticky = y == GOOSE || (one(y) && isStuck(y));
                    if (!isStuck(x) && sticky && (hand == 1 || !is(x, 1))) all.add(new int[] {x, hand, y});
                }
            }
        }
        return all;
    }

    int ways() {
        return touches().size();
    }

    /** By how many passings FOOD from x comes to each; 0 to x, NONE where it never comes. */
    private int[] handedOn(int x) {
        int[] far = new int[n()];
        Arrays.fill(far, NONE);
        far[x] = 0;
        for (int step = 0; step < 7; step++) {
            for (int y = 0; y < n(); y++) {
                if (far[y] != step || p.kind[y] == 1) continue;
                for (int z = 0; z < n(); z++) {
                    if ((p.on[y] == z || p.on[z] == y) && far[z] == NONE) far[z] = step + 1;
                }
            }
        }
        return far;
    }

    int feed(int x, int y) {
        if (!one(x) || !one(y) || x == y) return BAD;
        if (!isStuck(x) || !isStuck(y)) return STATE;
        return handedOn(x)[y];
    }

    int spoons() {
        for (int number = 0; ; number++) {
            for (int set = 0; set < 128; set++) {
                if (Integer.bitCount(set) != number || (set & ~stuck()) != 0) continue;
                int fed = 0;
                for (int x = 0; x < n(); x++) {
                    if ((set >> x & 1) == 0) continue;
                    int[] far = handedOn(x);
                    for (int y = 0; y < n(); y++) if (far[y] != NONE) fed |= 1 << y;
                }
                if (fed == stuck()) {
                    asked = set;
                    return number;
                }
            }
        }
    }

    private void extend(List<Integer> soFar, List<List<Integer>> out) {
        if (soFar.size() == Integer.bitCount(stuck())) {
            out.add(new ArrayList<>(soFar));
            return;
        }
        for (int x = 0; x < n(); x++) {
            if (!isStuck(x) || soFar.contains(x)) continue;
            if (p.on[x] != GOOSE && !soFar.contains(p.on[x])) continue;
            soFar.add(x);
            extend(soFar, out);
            soFar.remove(soFar.size() - 1);
        }
    }

    private List<List<Integer>> allOrders() {
        List<List<Integer>> out = new ArrayList<>();
        extend(new ArrayList<>(), out);
        return out;
    }

    private void tell(long a, long b) {
        long d = java.math.BigInteger.valueOf(a).gcd(java.math.BigInteger.valueOf(b)).longValue();
        upper = a / d;
        lower = b / d;
    }

    int orders() {
        tell(allOrders().size(), 1);
        return 1;
    }

    int came(int x, int place) {
        if (!one(x) || place < 0) return BAD;
        if (stuck() == 0) return find(4);
        List<List<Integer>> all = allOrders();
        tell(all.stream().filter(o -> isStuck(x) && o.indexOf(x) == place).count(), all.size());
        return 1;
    }

    int ahead(int x, int y) {
        if (!one(x) || !one(y) || x == y || !isStuck(x) || !isStuck(y)) return BAD;
        List<List<Integer>> all = allOrders();
        tell(all.stream().filter(o -> o.indexOf(x) < o.indexOf(y)).count(), all.size());
        return 1;
    }

    int nth(int i, int r) {
        if (i < 0 || !in(r, 0, 5)) return BAD;
        List<List<Integer>> all = allOrders();
        if (i >= all.size()) return find(4);
        toRow(r, all.get(i));
        return 1;
    }

    private void dealOut(int y, int feathers, int[] has) {
        List<Integer> hangers = new ArrayList<>();
        for (int x = 0; x < n(); x++) if (p.on[x] == y) hangers.add(x);
        int[] gets = new int[n()];
        for (int f = 0; f < feathers; f++) gets[hangers.get(f % hangers.size())]++;
        for (int x : hangers) {
            if (hangOn(p.on, x) == 0 || gets[x] == 0) {
                has[x] = gets[x];
            } else {
                has[x] = 1;
                dealOut(x, gets[x] - 1, has);
            }
        }
    }

    int gold(int n, int r) {
        if (!in(n, 0, 99) || !in(r, 0, 5)) return BAD;
        rows[r] = new int[n()];
        if (hangOn(p.on, GOOSE) == 0) return n;
        dealOut(GOOSE, n, rows[r]);
        return 0;
    }

    private int fitting(int r, boolean isSour) {
        if (!in(r, 0, 5)) return BAD;
        if (rows[r] == null) return find(1);
        if (rows[r].length % 2 == 1) return find(5);
        int set = 510;
        for (int i = 0; i < rows[r].length; i += 2) {
            int sight = rows[r][i];
            int laughed = rows[r][i + 1];
            if (!in(sight, 0, 7) || !in(laughed, 0, 1)) return find(3);
            for (int taste = 1; taste <= 8; taste++) {
                boolean would = isSour ? sight > taste : sight >= taste;
                if (would != (laughed == 1)) set &= ~(1 << taste);
            }
        }
        return set;
    }

    int tastes(int r) {
        return fitting(r, false);
    }

    int sour(int r) {
        return fitting(r, true);
    }

    int lots(int n, int seed) {
        if (!in(n, 1, 40) || !in(seed, 1, 2147483646)) return BAD;
        if (n() == 0) return STATE;
        if (p.past.size() + n > 60) return FULL;
        java.math.BigInteger lot = java.math.BigInteger.valueOf(seed);
        for (int i = 0; i < n; i++) {
            List<int[]> all = touches();
            if (all.isEmpty()) return i;
            lot = lot.multiply(java.math.BigInteger.valueOf(48271)).mod(java.math.BigInteger.valueOf(2147483647));
            int[] t = all.get(lot.mod(java.math.BigInteger.valueOf(all.size())).intValue());
            touch(t[0], t[1], t[2]);
        }
        return n;
    }

    int asked() {
        return asked;
    }

    long upper() {
        return upper;
    }

    long lower() {
        return lower;
    }

    int count(int what) {
        int number = 0;
        switch (what) {
            case 0: return n();
            case 1: return p.past.size();
            case 2: return p.day;
            case 3: return Integer.bitCount(stuck());
            case 4: return deepIn(p.on);
            case 5:
                for (int k : p.kind) if (k == 1 || k == 5) number++;
                return number;
            case 6:
                for (int[] r : rows) if (r != null) number++;
                return number;
            case 7:
                for (byte[] t : texts) if (t != null) number++;
                return number;
            case 8:
                for (People k : kept) if (k != null) number++;
                return number;
            default: return BAD;
        }
    }

    int finding() {
        return finding;
    }

    int findings(int f) {
        return in(f, 1, 5) ? findings[f] : BAD;
    }

    long digest() {
        List<Integer> all = new ArrayList<>();
        for (int what = 0; what <= 8; what++) all.add(count(what));
        for (int x = 0; x < n(); x++) for (int what = 0; what <= 5; what++) all.add(personOf(x, what));
        for (People k : kept) all.add(k == null ? -1 : k.past.size());
        for (int[] r : rows) {
            all.add(r == null ? -1 : r.length);
            if (r != null) for (int v : r) all.add(v);
        }
        for (byte[] t : texts) {
            all.add(t == null ? -1 : t.length);
            if (t != null) for (byte v : t) all.add((int) v);
        }
        long h = 17;
        for (int v : all) h = 31 * h + v;
        return h;
    }
}
