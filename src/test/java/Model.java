import java.util.ArrayList;
import java.util.HashMap;
import java.util.List;
import java.util.Map;

/**
 * The document once more, as plainly as can be and without thrift: what is thought of is tried on
 * a copy, what is searched for is searched by going down from the whole. ModelTest compares
 * WheelAndWire with it.
 */
final class Model {
    static final int UNKNOWN = -1, BAD = -2, LATE = -3, FULL = -4, NONE = -9;
    private static final int NEVER = 1 << 20;

    /** Rows r0 up to r1, columns c0 up to c1 (not with r1, c1); dried: above, below, left, right. */
    private static final class P implements Cloneable {
        int r0, c0, r1, c1, state, wrap, off;
        int[] dried = new int[4];

        P copy() {
            P p = new P();
            p.r0 = r0;
            p.c0 = c0;
            p.r1 = r1;
            p.c1 = c1;
            p.state = state;
            p.wrap = wrap;
            p.off = off;
            p.dried = dried.clone();
            return p;
        }
    }

    private static final class State {
        List<P> pieces = new ArrayList<>();
        int halfHours;

        State copy() {
            State s = new State();
            for (P p : pieces) {
                s.pieces.add(p.copy());
            }
            s.halfHours = halfHours;
            return s;
        }
    }

    private String text = "";
    private String[] rows = {"P"};
    private State now = new State();
    private final State[] slots = new State[2];
    private final List<int[]> asks = new ArrayList<>();
    private final List<int[]> left = new ArrayList<>();
    private final List<Integer> overs = new ArrayList<>();
    private final List<List<Boolean>> tastes = new ArrayList<>();
    private int b = 5, k = 6, price = 3, endPrice = 1;

    Model() {
        for (int t = 0; t < 10; t++) {
            tastes.add(new ArrayList<>());
        }
        startAnew();
    }

    private void startAnew() {
        now = new State();
        P all = new P();
        all.r1 = rows.length;
        all.c1 = rows[0].length();
        now.pieces.add(all);
    }

    // ---- the form

    int write(int n, long v) {
        if (n < 1 || n > 8) {
            return BAD;
        }
        if (text.length() + n > 48) {
            return FULL;
        }
        for (int i = 8 - n; i < 8; i++) {
            text += (char) (v >> (56 - 8 * i) & 0xFF);
        }
        return text.length();
    }

    int wipe() {
        int was = text.length();
        text = "";
        return was;
    }

    int fault() {
        for (int end = 1; end <= text.length(); end++) {
            if (!beginsAForm(text.substring(0, end))) {
                return end - 1;
            }
        }
        for (int tall = 1; tall <= 6; tall++) {
            for (int wide = 1; wide <= 6; wide++) {
                if (text.length() == tall * (wide + 1) - 1 && begins(text, tall, wide)) {
                    return NONE;
                }
            }
        }
        return text.length();
    }

    private static boolean beginsAForm(String start) {
        for (int tall = 1; tall <= 6; tall++) {
            for (int wide = 1; wide <= 6; wide++) {
                if (begins(start, tall, wide)) {
                    return true;
                }
            }
        }
        return false;
    }

    private static boolean begins(String start, int tall, int wide) {
        if (start.length() > tall * (wide + 1) - 1) {
            return false;
        }
        for (int i = 0; i < start.length(); i++) {
            boolean between = i % (wide + 1) == wide;
            if (between ? start.charAt(i) != '/' : "PRA".indexOf(start.charAt(i)) < 0) {
                return false;
            }
        }
        return true;
    }

    int form() {
        if (fault() != NONE) {
            return LATE;
        }
        rows = text.split("/");
        startAnew();
        slots[0] = null;
        slots[1] = null;
        left.clear();
        return rows.length * rows[0].length();
    }

    int place(int row, int column) {
        boolean there = row >= 0 && column >= 0 && row < rows.length && column < rows[0].length();
        return there ? "PRA".indexOf(rows[row].charAt(column)) : UNKNOWN;
    }

    private int sum(int r0, int c0, int r1, int c1, int paste, int rind) {
        int sum = 0;
        for (int r = r0; r < r1; r++) {
            for (int c = c0; c < c1; c++) {
                char sign = rows[r].charAt(c);
                sum += sign == 'P' ? paste : sign == 'R' ? rind : 0;
            }
        }
        return sum;
    }

    int high() {
        return rows.length;
    }

    int wide() {
        return rows[0].length();
    }

    int heavy(int r0, int c0, int r1, int c1) {
        return sum(r0, c0, r1, c1, 10, 8);
    }

    private int rinds(int r0, int c0, int r1, int c1) {
        return sum(r0, c0, r1, c1, 0, 1);
    }

    // ---- pieces

    private boolean any(int piece) {
        return piece >= 0 && piece < now.pieces.size();
    }

    private boolean standing(int piece) {
        return any(piece) && now.pieces.get(piece).state == 0;
    }

    private int[] bare(P p) {
        return new int[] {p.r0 == 0 ? 0 : p.c1 - p.c0, p.r1 == rows.length ? 0 : p.c1 - p.c0,
            p.c0 == 0 ? 0 : p.r1 - p.r0, p.c1 == rows[0].length() ? 0 : p.r1 - p.r0};
    }

    private static int total(int[] all) {
        int sum = 0;
        for (int one : all) {
            sum += one;
        }
        return sum;
    }

    private int weight(P p) {
        int weight = heavy(p.r0, p.c0, p.r1, p.c1) - total(p.dried) / 40 - p.off;
        return weight < 0 ? 0 : weight;
    }

    private boolean end(P p) {
        int rims = 0;
        for (int edges : bare(p)) {
            rims += edges == 0 ? 1 : 0;
        }
        return rims >= 3;
    }

    private int divide(State s, int piece, boolean across, int x) {
        P ahead = s.pieces.get(piece);
        int all = heavy(ahead.r0, ahead.c0, ahead.r1, ahead.c1);
        P behind = ahead.copy();
        int first = across ? 2 : 0;
        int edges = across ? ahead.r1 - ahead.r0 : ahead.c1 - ahead.c0;
        for (int side = first; side < first + 2; side++) {
            int dried = ahead.dried[side];
            ahead.dried[side] = dried * x / edges;
            behind.dried[side] = dried - ahead.dried[side];
        }
        if (across) {
            ahead.dried[1] = 0;
            behind.dried[0] = 0;
            ahead.r1 = behind.r0 = ahead.r0 + x;
        } else {
            ahead.dried[3] = 0;
            behind.dried[2] = 0;
            ahead.c1 = behind.c0 = ahead.c0 + x;
        }
        int off = ahead.off;
        ahead.off = all == 0 ? 0 : off * heavy(ahead.r0, ahead.c0, ahead.r1, ahead.c1) / all;
        behind.off = off - ahead.off;
        s.pieces.add(behind);
        return s.pieces.size() - 1;
    }

    int cut(int piece, boolean across, int x) {
        if (!standing(piece)) {
            return UNKNOWN;
        }
        P p = now.pieces.get(piece);
        if (x < 1 || x >= (across ? p.r1 - p.r0 : p.c1 - p.c0)) {
            return BAD;
        }
        return now.pieces.size() == 24 ? FULL : divide(now, piece, across, x);
    }

    int about(int piece, int what) {
        if (!any(piece)) {
            return UNKNOWN;
        }
        P p = now.pieces.get(piece);
        int[] told = {p.r0 * 1000 + p.c0 * 100 + (p.r1 - p.r0) * 10 + p.c1 - p.c0, p.state,
            rinds(p.r0, p.c0, p.r1, p.c1), total(bare(p)), total(p.dried), p.off, p.wrap, end(p) ? 1 : 0};
        return what < 0 || what > 7 ? BAD : told[what];
    }

    int weighs(int piece) {
        return any(piece) ? weight(now.pieces.get(piece)) : UNKNOWN;
    }

    int pass(int halfHours) {
        if (halfHours < 1 || halfHours > 999 || now.halfHours + halfHours > 9999) {
            return BAD;
        }
        for (P p : now.pieces) {
            int[] bare = bare(p);
            for (int side = 0; side < 4 && p.state == 0; side++) {
                p.dried[side] += bare[side] * halfHours * (p.wrap == 0 ? 10 : p.wrap == 1 ? 5 : 2);
            }
        }
        return now.halfHours += halfHours;
    }

    int wrap(int piece, int how) {
        if (!standing(piece)) {
            return UNKNOWN;
        }
        if (how < 0 || how > 2) {
            return BAD;
        }
        int was = now.pieces.get(piece).wrap;
        now.pieces.get(piece).wrap = how;
        return was;
    }

    int trim(int piece) {
        if (!standing(piece)) {
            return UNKNOWN;
        }
        P p = now.pieces.get(piece);
        int was = weight(p);
        p.off += total(p.dried) / 40 + total(bare(p));
        p.dried = new int[4];
        return was - weight(p);
    }

    int sell(int piece, boolean tasted) {
        if (!standing(piece)) {
            return UNKNOWN;
        }
        now.pieces.get(piece).state = tasted ? 2 : 1;
        return weight(now.pieces.get(piece));
    }

    // ---- asks

    private static boolean wrong(int a, int o, int r) {
        return a < 1 || a > 360 || o < 0 || o > 99 || r < 0 || r > 36;
    }

    private boolean served(P p, int a, int o, int r) {
        return p.state == 0 && weight(p) >= a && weight(p) <= a + o && rinds(p.r0, p.c0, p.r1, p.c1) <= r;
    }

    int serves(int piece, int a, int o, int r) {
        return !any(piece) ? UNKNOWN : wrong(a, o, r) ? BAD : served(now.pieces.get(piece), a, o, r) ? 1 : 0;
    }

    private int lightest(State s, int a, int o, int r) {
        int best = NONE;
        for (int i = s.pieces.size() - 1; i >= 0; i--) {
            P p = s.pieces.get(i);
            if (served(p, a, o, r) && (best == NONE || weight(p) <= weight(s.pieces.get(best)))) {
                best = i;
            }
        }
        return best;
    }

    int stands(int a, int o, int r) {
        return wrong(a, o, r) ? BAD : lightest(now, a, o, r);
    }

    /** All cuts with a part that serves, as {edges, piece, along, x, behind}, in that order. */
    private List<int[]> cuts(State s, int a, int o, int r) {
        List<int[]> all = new ArrayList<>();
        for (int i = 0; i < s.pieces.size() && s.pieces.size() < 24; i++) {
            P p = s.pieces.get(i);
            for (int along = 0; along < 2 && p.state == 0; along++) {
                int high = p.r1 - p.r0;
                int wide = p.c1 - p.c0;
                for (int x = 1; x < (along == 0 ? high : wide); x++) {
                    State then = s.copy();
                    int number = divide(then, i, along == 0, x);
                    if (served(then.pieces.get(i), a, o, r)) {
                        all.add(new int[] {along == 0 ? wide : high, i, along, x, 0});
                    }
                    if (served(then.pieces.get(number), a, o, r)) {
                        all.add(new int[] {along == 0 ? wide : high, i, along, x, 1});
                    }
                }
            }
        }
        all.sort(Model::byElements);
        return all;
    }

    private static int byElements(int[] one, int[] other) {
        for (int i = 0; i < one.length; i++) {
            if (one[i] != other[i]) {
                return Integer.compare(one[i], other[i]);
            }
        }
        return 0;
    }

    private static int told(int[] cut) {
        return 1000 * cut[1] + 100 * cut[2] + 10 * cut[3] + cut[4];
    }

    int next(int a, int o, int r) {
        if (wrong(a, o, r)) {
            return BAD;
        }
        List<int[]> cuts = cuts(now, a, o, r);
        return lightest(now, a, o, r) != NONE || cuts.isEmpty() ? NONE : told(cuts.get(0));
    }

    private int sellPart(State s, int[] cut) {
        int number = divide(s, cut[1], cut[2] == 0, cut[3]);
        int sold = cut[4] == 1 ? number : cut[1];
        s.pieces.get(sold).state = 1;
        return sold;
    }

    int serve(int a, int o, int r) {
        if (wrong(a, o, r)) {
            return BAD;
        }
        int piece = lightest(now, a, o, r);
        if (piece != NONE) {
            now.pieces.get(piece).state = 1;
            return piece;
        }
        List<int[]> cuts = cuts(now, a, o, r);
        return cuts.isEmpty() ? NONE : sellPart(now, cuts.get(0));
    }

    private int edgesToServe(State s, int a, int o, int r) {
        if (lightest(s, a, o, r) != NONE) {
            return 0;
        }
        List<int[]> cuts = cuts(s, a, o, r);
        return cuts.isEmpty() ? NEVER : cuts.get(0)[0];
    }

    /** The best way as {edges, by a cut, piece, along, x, behind}; null: none. */
    private int[] twoAhead(int a, int o, int b2, int p2, int r) {
        List<int[]> ways = new ArrayList<>();
        for (int i = 0; i < now.pieces.size(); i++) {
            if (served(now.pieces.get(i), a, o, r)) {
                State then = now.copy();
                then.pieces.get(i).state = 1;
                ways.add(new int[] {edgesToServe(then, b2, p2, r), 0, i, 0, 0, 0});
            }
        }
        for (int[] cut : cuts(now, a, o, r)) {
            State then = now.copy();
            sellPart(then, cut);
            ways.add(new int[] {cut[0] + edgesToServe(then, b2, p2, r), 1, cut[1], cut[2], cut[3], cut[4]});
        }
        ways.sort(Model::byElements);
        return ways.isEmpty() || ways.get(0)[0] >= NEVER ? null : ways.get(0);
    }

    int two(int a, int o, int b2, int p2, int r) {
        if (wrong(a, o, r) || wrong(b2, p2, r)) {
            return BAD;
        }
        int[] way = twoAhead(a, o, b2, p2, r);
        return way == null ? NONE : way[0];
    }

    int twoFirst(int a, int o, int b2, int p2, int r) {
        if (wrong(a, o, r) || wrong(b2, p2, r)) {
            return BAD;
        }
        int[] way = twoAhead(a, o, b2, p2, r);
        return way == null ? NONE
            : way[1] == 0 ? way[2] : 100000 + 1000 * way[2] + 100 * way[3] + 10 * way[4] + way[5];
    }

    // ---- whole ones

    int order(int a, int o, int r) {
        if (wrong(a, o, r)) {
            return BAD;
        }
        if (asks.size() == 4) {
            return FULL;
        }
        asks.add(new int[] {a, o, r});
        return asks.size();
    }

    int unorder() {
        int was = asks.size();
        asks.clear();
        return was;
    }

    private int wire(int r0, int c0, int r1, int c1, int wish, Map<Integer, Integer> known) {
        if (wish == 0) {
            return 0;
        }
        int key = ((((r0 * 7 + c0) * 7 + r1) * 7 + c1) << 4) + wish;
        if (known.containsKey(key)) {
            return known.get(key);
        }
        int best = NEVER;
        for (int i = 0; i < asks.size(); i++) {
            int[] ask = asks.get(i);
            int weight = heavy(r0, c0, r1, c1);
            if (wish == 1 << i && weight >= ask[0] && weight <= ask[0] + ask[1] && rinds(r0, c0, r1, c1) <= ask[2]) {
                best = 0;
            }
        }
        for (int mine = 0; mine < 16 && best > 0; mine++) {
            if ((mine & wish) == mine) {
                for (int r = r0 + 1; r < r1; r++) {
                    best = Math.min(best, c1 - c0 + wire(r0, c0, r, c1, mine, known) + wire(r, c0, r1, c1, wish - mine, known));
                }
                for (int c = c0 + 1; c < c1; c++) {
                    best = Math.min(best, r1 - r0 + wire(r0, c0, r1, c, mine, known) + wire(r0, c, r1, c1, wish - mine, known));
                }
            }
        }
        known.put(key, best);
        return best;
    }

    int whole() {
        int best = wire(0, 0, rows.length, rows[0].length(), (1 << asks.size()) - 1, new HashMap<>());
        return best >= NEVER ? NONE : best;
    }

    int first() {
        int best = whole();
        int wish = (1 << asks.size()) - 1;
        int high = rows.length;
        int wide = rows[0].length();
        Map<Integer, Integer> known = new HashMap<>();
        for (int along = 0; along < 2 && best > 0; along++) {
            for (int x = 1; x < (along == 0 ? high : wide); x++) {
                for (int mine = 0; mine <= wish; mine++) {
                    int got = along == 0
                        ? wide + wire(0, 0, x, wide, mine, known) + wire(x, 0, high, wide, wish - mine, known)
                        : high + wire(0, 0, high, x, mine, known) + wire(0, x, high, wide, wish - mine, known);
                    if ((mine & wish) == mine && got == best) {
                        return 100 * along + x;
                    }
                }
            }
        }
        return NONE;
    }

    private int fairly(int r0, int c0, int r1, int c1, int n, int[] each, Map<Integer, Integer> known) {
        int weight = heavy(r0, c0, r1, c1);
        if (weight != n * each[0] || rinds(r0, c0, r1, c1) != n * each[1]) {
            return NEVER;
        }
        if (n == 1) {
            return 0;
        }
        int key = ((r0 * 7 + c0) * 7 + r1) * 7 + c1;
        if (known.containsKey(key)) {
            return known.get(key);
        }
        int best = NEVER;
        for (int mine = 1; mine < n; mine++) {
            for (int r = r0 + 1; r < r1; r++) {
                int got = fairly(r0, c0, r, c1, mine, each, known) + fairly(r, c0, r1, c1, n - mine, each, known);
                best = Math.min(best, c1 - c0 + got);
            }
            for (int c = c0 + 1; c < c1; c++) {
                int got = fairly(r0, c0, r1, c, mine, each, known) + fairly(r0, c, r1, c1, n - mine, each, known);
                best = Math.min(best, r1 - r0 + got);
            }
        }
        known.put(key, best);
        return best;
    }

    int fair(int n) {
        if (n < 1 || n > 36) {
            return BAD;
        }
        int high = rows.length;
        int wide = rows[0].length();
        int weight = heavy(0, 0, high, wide);
        int rind = rinds(0, 0, high, wide);
        if (weight < n || weight % n != 0 || rind % n != 0) {
            return NONE;
        }
        int best = fairly(0, 0, high, wide, n, new int[] {weight / n, rind / n}, new HashMap<>());
        return best >= NEVER ? NONE : best;
    }

    int left(int block) {
        for (int r = 0; r < rows.length; r++) {
            for (int c = 0; c < rows[0].length(); c++) {
                for (int high = 1; r + high <= rows.length; high++) {
                    for (int wide = 1; c + wide <= rows[0].length(); wide++) {
                        if (block == 1000 * r + 100 * c + 10 * high + wide) {
                            return leave(new int[] {r, c, r + high, c + wide});
                        }
                    }
                }
            }
        }
        return UNKNOWN;
    }

    private int leave(int[] block) {
        for (int[] other : left) {
            if (meets(block, other)) {
                return LATE;
            }
        }
        if (left.size() == 6) {
            return FULL;
        }
        left.add(block);
        return left.size();
    }

    private static boolean meets(int[] one, int[] other) {
        return one[0] < other[2] && other[0] < one[2] && one[1] < other[3] && other[1] < one[3];
    }

    /** No cut goes through a block that is left; what holds none of them needs no cut. */
    private int cutsFor(int[] in, Map<Integer, Integer> known) {
        boolean none = true;
        boolean itself = false;
        for (int[] block : left) {
            none &= !meets(block, in);
            itself |= block[0] == in[0] && block[1] == in[1] && block[2] == in[2] && block[3] == in[3];
        }
        if (none || itself) {
            return 0;
        }
        int key = ((in[0] * 7 + in[1]) * 7 + in[2]) * 7 + in[3];
        if (known.containsKey(key)) {
            return known.get(key);
        }
        int best = NEVER;
        for (int way = 0; way < 2; way++) {
            for (int at = in[way] + 1; at < in[way + 2]; at++) {
                boolean through = false;
                for (int[] block : left) {
                    through |= meets(block, in) && block[way] < at && at < block[way + 2];
                }
                if (!through) {
                    int[] ahead = in.clone();
                    int[] behind = in.clone();
                    ahead[way + 2] = at;
                    behind[way] = at;
                    best = Math.min(best, 1 + cutsFor(ahead, known) + cutsFor(behind, known));
                }
            }
        }
        known.put(key, best);
        return best;
    }

    int read() {
        int best = cutsFor(new int[] {0, 0, rows.length, rows[0].length()}, new HashMap<>());
        return best >= NEVER ? NONE : best;
    }

    int unleft() {
        int was = left.size();
        left.clear();
        return was;
    }

    // ---- ripe, books, worth

    int ripens(int b2, int k2) {
        if (b2 < 0 || b2 > 30 || k2 < 1 || k2 > 30) {
            return BAD;
        }
        int was = 100 * b + k;
        b = b2;
        k = k2;
        return was;
    }

    private static long[] least(long above, long below) {
        for (long d = below; d > 1; d--) {
            if (above % d == 0 && below % d == 0) {
                return new long[] {above / d, below / d};
            }
        }
        return new long[] {above, below};
    }

    private long[] ripeness(P p, int day) {
        int paste = 0;
        int ripe = 0;
        for (int r = p.r0; r < p.r1; r++) {
            for (int c = p.c0; c < p.c1; c++) {
                if (rows[r].charAt(c) == 'P') {
                    int off = Math.min(Math.min(r, c), Math.min(rows.length - 1 - r, rows[0].length() - 1 - c));
                    paste++;
                    ripe += day - b - 2 * off >= 0 && day - b - 2 * off < k ? 1 : 0;
                }
            }
        }
        return paste == 0 ? new long[] {0, 1} : least(ripe, paste);
    }

    long ripe(int piece, int day, boolean upper) {
        return !any(piece) ? UNKNOWN : day < 0 || day > 999 ? BAD : ripeness(now.pieces.get(piece), day)[upper ? 0 : 1];
    }

    int ripest(int day) {
        if (day < 0 || day > 999) {
            return BAD;
        }
        int best = NONE;
        double most = -1;
        for (int i = 0; i < now.pieces.size(); i++) {
            long[] ripe = ripeness(now.pieces.get(i), day);
            double share = (double) ripe[0] / ripe[1];
            if (now.pieces.get(i).state == 0 && share > most + 1e-9) {
                best = i;
                most = share;
            }
        }
        return best;
    }

    int book(int limit) {
        if (limit < 0 || limit > 99) {
            return BAD;
        }
        if (overs.size() == 16) {
            return FULL;
        }
        overs.add(limit);
        return overs.size();
    }

    int over(int x) {
        if (x < 0 || x > 99) {
            return BAD;
        }
        int sum = 1000;
        for (int limit : overs) {
            sum += limit >= x ? x : -12;
        }
        return sum;
    }

    int bestOver() {
        int best = 0;
        for (int x = 0; x <= 99; x++) {
            best = over(x) > over(best) ? x : best;
        }
        return best;
    }

    int taste(int t, boolean bought) {
        if (t < 0 || t > 9) {
            return BAD;
        }
        tastes.get(t).add(bought);
        return tastes.get(t).size();
    }

    private long[] gain(int t) {
        int bought = 1;
        for (boolean one : tastes.get(t)) {
            bought += one ? 1 : 0;
        }
        int all = tastes.get(t).size() + 2;
        return least(20L * bought - (long) t * all, all);
    }

    long brings(int t, boolean upper) {
        return t < 0 || t > 9 ? BAD : upper ? gain(t)[0] + 1000000 : gain(t)[1];
    }

    int bestTaste() {
        int best = 0;
        for (int t = 1; t < 10; t++) {
            best = gain(t)[0] * gain(best)[1] > gain(best)[0] * gain(t)[1] ? t : best;
        }
        return best;
    }

    int prices(int p, int e) {
        if (p < 1 || p > 9 || e < 0 || e > 9) {
            return BAD;
        }
        int was = 10 * price + endPrice;
        price = p;
        endPrice = e;
        return was;
    }

    int worth() {
        int sum = 0;
        for (P p : now.pieces) {
            sum += p.state != 0 ? 0 : weight(p) * (end(p) ? endPrice : price);
        }
        return sum;
    }

    // ---- slots

    private int standing() {
        int sum = 0;
        for (P p : now.pieces) {
            sum += p.state == 0 ? 1 : 0;
        }
        return sum;
    }

    int keep(int slot) {
        if (slot < 0 || slot > 1) {
            return UNKNOWN;
        }
        slots[slot] = now.copy();
        return standing();
    }

    int again(int slot) {
        if (slot < 0 || slot > 1) {
            return UNKNOWN;
        }
        if (slots[slot] == null) {
            return LATE;
        }
        now = slots[slot].copy();
        return standing();
    }

    int count(int what) {
        int[] told = {now.pieces.size(), standing(), now.halfHours, asks.size(), left.size(), text.length(), overs.size()};
        return what < 0 || what > 6 ? BAD : told[what];
    }
}
