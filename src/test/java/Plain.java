import java.math.BigInteger;
import java.util.ArrayList;
import java.util.Arrays;
import java.util.HashSet;
import java.util.List;
import java.util.Set;
import java.util.function.ToIntFunction;

/**
 * The document once more, read afresh and worked out in the plainest way, without care for time or room:
 * PlainTest holds the class against it.
 */
final class Plain {
    static final int BAD = -1, NOT = -2, FULL = -3, STATE = -5, VOID = -2000000000;

    static final class Cart implements Cloneable {
        int number, x, y, way, pace = 1, shoe = 9;
        int steps;

        Cart copy() {
            Cart c = new Cart();
            c.number = number;
            c.x = x;
            c.y = y;
            c.way = way;
            c.pace = pace;
            c.shoe = shoe;
            return c;
        }

        int cell() {
            return 16 * y + x;
        }
    }

    /** What the names of a law stand for. */
    static final class Names {
        int w, s, h, d, k, p;
    }

    private final List<Cart> carts = new ArrayList<>();
    private final List<int[]> places = new ArrayList<>();
    private int reach = 1, wind = 0, hour = 0;
    private StringBuilder tape = new StringBuilder();
    private String law = null;
    private final int[] led = new int[5];
    private List<Cart> imageCarts = null;
    private int imageHour;
    private int[] imageLed;
    private final List<int[]> done = new ArrayList<>();
    private final List<int[]> undone = new ArrayList<>();
    private final List<Integer> bodies = new ArrayList<>();
    private List<Integer> trail = new ArrayList<>();
    /** null, an Integer for a body, or a Row. */
    private final Object[] shelves = new Object[6];

    static final class Row {
        final int sort;
        final long[] items;

        Row(int sort, int n) {
            this.sort = sort;
            this.items = new long[n];
        }
    }

    // ---- the law

    /** Takes a text apart by the grammar; at is -1 once something did not fit. */
    static final class Grammar {
        final String t;
        int at = 0;
        boolean ok = true;

        Grammar(String t) {
            this.t = t;
        }

        char peek() {
            return at < t.length() ? t.charAt(at) : '\0';
        }

        boolean eat(char c) {
            if (ok && at < t.length() && t.charAt(at) == c) {
                at++;
                return true;
            }
            return false;
        }

        List<List<ToIntFunction<Names>>> lines() {
            List<List<ToIntFunction<Names>>> all = new ArrayList<>();
            do {
                List<ToIntFunction<Names>> line = new ArrayList<>();
                line.add(e(0));
                if (eat('?')) {
                    line.add(e(0));
                }
                all.add(line);
            } while (ok && eat(';'));
            if (at != t.length()) {
                ok = false;
            }
            return all;
        }

        ToIntFunction<Names> e(int open) {
            ToIntFunction<Names> v = a(open);
            while (eat('|')) {
                ToIntFunction<Names> l = v, r = a(open);
                v = n -> (l.applyAsInt(n) != 0) | (r.applyAsInt(n) != 0) ? 1 : 0;
            }
            return v;
        }

        ToIntFunction<Names> a(int open) {
            ToIntFunction<Names> v = b(open);
            while (eat('&')) {
                ToIntFunction<Names> l = v, r = b(open);
                v = n -> (l.applyAsInt(n) != 0) & (r.applyAsInt(n) != 0) ? 1 : 0;
            }
            return v;
        }

        ToIntFunction<Names> b(int open) {
            ToIntFunction<Names> l = s(open);
            if (eat('<')) {
                ToIntFunction<Names> r = s(open);
                return n -> l.applyAsInt(n) < r.applyAsInt(n) ? 1 : 0;
            }
            if (eat('=')) {
                ToIntFunction<Names> r = s(open);
                return n -> l.applyAsInt(n) == r.applyAsInt(n) ? 1 : 0;
            }
            if (eat('>')) {
                ToIntFunction<Names> r = s(open);
                return n -> l.applyAsInt(n) > r.applyAsInt(n) ? 1 : 0;
            }
            return l;
        }

        ToIntFunction<Names> s(int open) {
            ToIntFunction<Names> v = p(open);
            while (ok && (peek() == '+' || peek() == '-')) {
                boolean plus = peek() == '+';
                at++;
                ToIntFunction<Names> l = v, r = p(open);
                v = plus ? n -> l.applyAsInt(n) + r.applyAsInt(n) : n -> l.applyAsInt(n) - r.applyAsInt(n);
            }
            return v;
        }

        ToIntFunction<Names> p(int open) {
            ToIntFunction<Names> v = o(open);
            while (ok && (peek() == '*' || peek() == '/' || peek() == '%')) {
                char c = peek();
                at++;
                ToIntFunction<Names> l = v, r = o(open);
                v = n -> {
                    int x = l.applyAsInt(n), y = r.applyAsInt(n);
                    return c == '*' ? x * y : y == 0 ? 0 : c == '/' ? x / y : x % y;
                };
            }
            return v;
        }

        ToIntFunction<Names> o(int open) {
            char c = peek();
            if (!ok || at >= t.length()) {
                ok = false;
                return n -> 0;
            }
            if (c >= '0' && c <= '9') {
                int from = at;
                while (at - from < 4 && peek() >= '0' && peek() <= '9') {
                    at++;
                }
                int v = Integer.parseInt(t.substring(from, at));
                return n -> v;
            }
            at++;
            switch (c) {
                case 'w': return n -> n.w;
                case 's': return n -> n.s;
                case 'h': return n -> n.h;
                case 'd': return n -> n.d;
                case 'k': return n -> n.k;
                case 'p': return n -> n.p;
                default: break;
            }
            if ((c == '!' || c == '-' || c == '(') && open < 6) {
                if (c == '(') {
                    ToIntFunction<Names> v = e(open + 1);
                    ok &= eat(')');
                    return v;
                }
                ToIntFunction<Names> v = o(open + 1);
                return c == '-' ? n -> -v.applyAsInt(n) : n -> v.applyAsInt(n) == 0 ? 1 : 0;
            }
            ok = false;
            return n -> 0;
        }
    }

    static boolean isText(String t) {
        Grammar g = new Grammar(t);
        g.lines();
        return g.ok;
    }

    /** Whether some text goes on from here: what is open can always be closed by a number and brackets. */
    static boolean goesOn(String start) {
        for (int n = 0; n <= 7; n++) {
            String end = ")".repeat(n);
            if (isText(start + end) || isText(start + "1" + end)) {
                return true;
            }
        }
        return false;
    }

    static int faultOf(String t) {
        for (int i = 0; i < t.length(); i++) {
            if (!goesOn(t.substring(0, i + 1))) {
                return i;
            }
        }
        return isText(t) ? -1 : t.length();
    }

    private String workedText = null;
    private List<List<ToIntFunction<Names>>> workedLines;

    private int given(Cart c, int hourThen) {
        if (law == null) {
            return c.shoe == 0 ? 1 : 0;
        }
        if (!law.equals(workedText)) {
            workedText = law;
            workedLines = new Grammar(law).lines();
        }
        Names n = new Names();
        n.w = wind;
        n.s = c.shoe;
        n.h = hourThen;
        n.d = c.way;
        n.k = c.number;
        n.p = c.pace;
        for (List<ToIntFunction<Names>> line : workedLines) {
            if (line.size() == 1 || line.get(0).applyAsInt(n) != 0) {
                int v = line.get(line.size() - 1).applyAsInt(n);
                return v > 1 ? 1 : v < -1 ? -1 : v;
            }
        }
        return 0;
    }

    // ---- hours

    private static final int[][] STEP = {{0, -1}, {1, -1}, {1, 0}, {1, 1}, {0, 1}, {-1, 1}, {-1, 0}, {-1, -1}};

    private static boolean onLand(int x, int y) {
        return x >= 0 && x < 16 && y >= 0 && y < 16;
    }

    private void goAnHour(Cart c, int hourThen, int beyond) {
        c.way = Math.floorMod(c.way + given(c, hourThen) + beyond, 8);
        c.steps = 0;
        for (int i = 0; i < c.pace; i++) {
            int[] d = STEP[c.way];
            if (!onLand(c.x + d[0], c.y + d[1])) {
                c.way = (c.way + 4) % 8;
                d = STEP[c.way];
                if (!onLand(c.x + d[0], c.y + d[1])) {
                    continue;
                }
            }
            c.x += d[0];
            c.y += d[1];
            c.steps++;
        }
        if (c.shoe > 0) {
            c.shoe--;
        }
    }

    private int hourBehind(int t) {
        return Math.min(99, hour + t);
    }

    private Cart behind(Cart now, int n) {
        Cart c = now.copy();
        for (int t = 0; t < n; t++) {
            goAnHour(c, hourBehind(t), 0);
        }
        return c;
    }

    /** Carts behind 0 to n hours. */
    private List<Cart> journey(Cart now, int n) {
        List<Cart> all = new ArrayList<>();
        Cart c = now.copy();
        all.add(c.copy());
        for (int t = 0; t < n; t++) {
            goAnHour(c, hourBehind(t), 0);
            all.add(c.copy());
        }
        return all;
    }

    static int apart(int a, int b) {
        return Math.max(Math.abs(a % 16 - b % 16), Math.abs(a / 16 - b / 16));
    }

    private boolean near(int a, int b) {
        return apart(a, b) <= reach;
    }

    // ---- the calls

    private boolean cart(int k) {
        return k >= 0 && k < carts.size();
    }

    private boolean isPlace(int p) {
        return p >= 0 && p < places.size();
    }

    private boolean pair(int kp) {
        return kp >= 0 && cart(kp / 10) && isPlace(kp % 10);
    }

    int carriage(int cell, int way) {
        if (cell < 0 || cell > 255 || way < 0 || way > 7) {
            return BAD;
        }
        return come(cell, way, 1);
    }

    private int come(int cell, int way, int pace) {
        if (carts.size() == 6) {
            return FULL;
        }
        Cart c = new Cart();
        c.number = carts.size();
        c.x = cell % 16;
        c.y = cell / 16;
        c.way = way;
        c.pace = pace;
        carts.add(c);
        return c.number;
    }

    int carriages(int shelf, int i, int n) {
        if (shelf < 0 || shelf > 5 || n < 1 || n > 6) {
            return BAD;
        }
        if (shelves[shelf] == null) {
            return 0;
        }
        if (!(shelves[shelf] instanceof Row r) || r.sort != 1) {
            return -12;
        }
        if (i < 0) {
            return 0;
        }
        for (int c = 0; c < n; c++) {
            long at = (long) i + 3 * c;
            if (at + 2 >= r.items.length) {
                return c;
            }
            long cell = r.items[(int) at], way = r.items[(int) at + 1], pace = r.items[(int) at + 2];
            if (cell < 0 || cell > 255 || way < 0 || way > 7 || pace < 1 || pace > 4) {
                return c;
            }
            if (come((int) cell, (int) way, (int) pace) == FULL) {
                return c;
            }
        }
        return n;
    }

    int place(int cell) {
        if (cell < 0 || cell > 255) {
            return BAD;
        }
        if (places.size() == 8) {
            return FULL;
        }
        places.add(new int[] {cell, 1});
        return places.size() - 1;
    }

    private void set(int number, int what, int v) {
        switch (what) {
            case 0: carts.get(number).x = v % 16; carts.get(number).y = v / 16; break;
            case 1: carts.get(number).way = v; break;
            case 2: carts.get(number).pace = v; break;
            case 3: carts.get(number).shoe = v; break;
            case 4: places.get(number)[0] = v; break;
            case 5: places.get(number)[1] = v; break;
            case 6: reach = v; break;
            case 7: wind = v; break;
            default: hour = v; break;
        }
    }

    int mend(int number, int what, int v) {
        int was = of(number, what);
        if (was == VOID) {
            return VOID;
        }
        int[][] range = {{0, 255}, {0, 7}, {1, 4}, {0, 9}, {0, 255}, {0, 9}, {0, 5}, {-3, 3}, {0, 99}};
        if (v < range[what][0] || v > range[what][1]) {
            return VOID;
        }
        if (v != was) {
            done.add(new int[] {number, what, was, v});
            undone.clear();
            if (done.size() > 40) {
                done.remove(0);
            }
            set(number, what, v);
        }
        return was;
    }

    int of(int number, int what) {
        if (what < 0 || what > 8) {
            return VOID;
        }
        if (what <= 3) {
            if (!cart(number)) {
                return VOID;
            }
            Cart c = carts.get(number);
            return what == 0 ? c.cell() : what == 1 ? c.way : what == 2 ? c.pace : c.shoe;
        }
        if (what <= 5) {
            return isPlace(number) ? places.get(number)[what - 4] : VOID;
        }
        return number != 0 ? VOID : what == 6 ? reach : what == 7 ? wind : hour;
    }

    int feed(int letter) {
        if (letter < 0 || letter > 255) {
            return BAD;
        }
        if (tape.length() == 120) {
            return FULL;
        }
        tape.append((char) letter);
        return tape.length();
    }

    int law() {
        String t = tape.toString();
        tape = new StringBuilder();
        int fault = faultOf(t);
        if (fault >= 0) {
            return -100 - fault;
        }
        law = t;
        return 1;
    }

    int turn(int k) {
        return cart(k) ? given(carts.get(k), hour) : VOID;
    }

    int later(int k, int n, int what) {
        if (!cart(k) || n < 0 || n > 60 || what < 0 || what > 2) {
            return BAD;
        }
        Cart c = behind(carts.get(k), n);
        return what == 0 ? c.cell() : what == 1 ? c.way : c.shoe;
    }

    int nears(int kp, int n, int what) {
        if (!pair(kp) || n < 0 || n > 60 || what < 0 || what > 1) {
            return BAD;
        }
        List<Integer> far = new ArrayList<>();
        for (Cart c : journey(carts.get(kp / 10), n)) {
            far.add(apart(c.cell(), places.get(kp % 10)[0]));
        }
        int least = far.stream().min(Integer::compare).get();
        return what == 0 ? least : far.indexOf(least);
    }

    int passes(int k, int n, int what) {
        if (!cart(k) || n < 0 || n > 60 || what < 0 || what > 1) {
            return BAD;
        }
        Set<Integer> passed = new HashSet<>();
        for (Cart c : journey(carts.get(k), n)) {
            for (int p = 0; p < places.size(); p++) {
                if (near(c.cell(), places.get(p)[0])) {
                    passed.add(p);
                }
            }
        }
        return passed.stream().mapToInt(p -> what == 0 ? 1 << p : places.get(p)[1]).sum();
    }

    int meet(int ab) {
        for (int t = 0; t <= 60; t++) {
            int times = often(ab, t);
            if (times != 0) {
                return times < 0 ? times : t;
            }
        }
        return NOT;
    }

    int often(int ab, int n) {
        if (ab < 0 || ab / 10 == ab % 10 || !cart(ab / 10) || !cart(ab % 10) || n < 0 || n > 60) {
            return BAD;
        }
        int times = 0;
        for (int t = 0; t <= n; t++) {
            if (near(behind(carts.get(ab / 10), t).cell(), behind(carts.get(ab % 10), t).cell())) {
                times++;
            }
        }
        return times;
    }

    int who(int cell, int n) {
        if (cell < 0 || cell > 255 || n < 0 || n > 60) {
            return BAD;
        }
        int bits = 0;
        for (Cart c : carts) {
            if (near(behind(c, n).cell(), cell)) {
                bits += 1 << c.number;
            }
        }
        return bits;
    }

    int soonest(int ft, int what) {
        if (ft < 0 || ft / 10 == ft % 10 || !isPlace(ft / 10) || !isPlace(ft % 10) || what < 0 || what > 1) {
            return BAD;
        }
        Set<Integer> in = new HashSet<>();
        for (int t = 0; t <= 60; t++) {
            List<Cart> then = new ArrayList<>();
            for (Cart c : carts) {
                then.add(behind(c, t));
            }
            boolean more = true;
            while (more) {
                more = false;
                for (Cart c : then) {
                    boolean may = near(c.cell(), places.get(ft / 10)[0]);
                    for (int other : in) {
                        may |= near(c.cell(), then.get(other).cell());
                    }
                    if (may) {
                        more |= in.add(c.number);
                    }
                }
            }
            for (int k : in) {
                if (near(then.get(k).cell(), places.get(ft % 10)[0])) {
                    return what == 0 ? t : in.stream().mapToInt(j -> 1 << j).sum();
                }
            }
        }
        return NOT;
    }

    int buy(int k, int n, int what) {
        if (k < 1 || k > 3 || n < 0 || n > 30 || what < 0 || what > 1) {
            return BAD;
        }
        List<int[]> all = new ArrayList<>();
        List<List<Cart>> journeys = new ArrayList<>();
        for (Cart c : carts) {
            journeys.add(journey(c, n));
        }
        for (int bits = 0; bits < 1 << places.size(); bits++) {
            int chosen = bits;
            if (Integer.bitCount(bits) <= k) {
                int pass = 0;
                for (List<Cart> j : journeys) {
                    boolean passes = j.stream().anyMatch(c -> {
                        for (int p = 0; p < places.size(); p++) {
                            if ((chosen >> p & 1) == 1 && near(c.cell(), places.get(p)[0])) {
                                return true;
                            }
                        }
                        return false;
                    });
                    pass += passes ? 1 : 0;
                }
                all.add(new int[] {-pass, Integer.bitCount(bits), bits});
            }
        }
        int[] best = all.stream().min(Arrays::compare).get();
        return what == 0 ? -best[0] : best[2];
    }

    private int refusalAsBytes(int shelf) {
        return shelves[shelf] == null ? -11 : shelves[shelf] instanceof Row r && r.sort == 0 ? 0 : -12;
    }

    private int firstWrong(long[] row, Cart now) {
        List<Cart> all = journey(now, 60);
        for (int i = 0; i < row.length && i < 40; i += 2) {
            boolean so = i + 1 < row.length && row[i] >= 0 && row[i] <= 60 && row[i + 1] >= 0 && row[i + 1] < places.size()
                && near(all.get((int) row[i]).cell(), places.get((int) row[i + 1])[0]);
            if (!so) {
                return i / 2;
            }
        }
        return NOT;
    }

    int judge(int shelf, int k) {
        if (shelf < 0 || shelf > 5 || !cart(k)) {
            return BAD;
        }
        int refusal = refusalAsBytes(shelf);
        return refusal != 0 ? refusal : firstWrong(((Row) shelves[shelf]).items, carts.get(k));
    }

    int dined(int shelf, int k, int what) {
        if (shelf < 0 || shelf > 5 || !cart(k) || what < 0 || what > 3) {
            return BAD;
        }
        int refusal = refusalAsBytes(shelf);
        if (refusal != 0) {
            return refusal;
        }
        long[] row = ((Row) shelves[shelf]).items;
        int bits = 0;
        if (what == 0 || what == 3) {
            for (int v = what == 0 ? 0 : 1; v <= (what == 0 ? 7 : 4); v++) {
                Cart c = carts.get(k).copy();
                if (what == 0) {
                    c.way = v;
                } else {
                    c.pace = v;
                }
                bits |= firstWrong(row, c) == NOT ? 1 << v : 0;
            }
            return bits;
        }
        List<Integer> cells = new ArrayList<>();
        for (int cell = 0; cell < 256; cell++) {
            Cart c = carts.get(k).copy();
            c.x = cell % 16;
            c.y = cell / 16;
            if (firstWrong(row, c) == NOT) {
                cells.add(cell);
            }
        }
        return what == 1 ? cells.size() : cells.isEmpty() ? NOT : cells.get(0);
    }

    /** All plans, tried one by one in the order in which like ones are told. */
    private List<Integer> bestPlan(Cart c, int t, int left, int spot, int may) {
        if (left == 0) {
            return near(c.cell(), spot) ? new ArrayList<>() : null;
        }
        int[] order = {0, -1, 1};
        for (int by : order) {
            if (by != 0 && may == 0) {
                continue;
            }
            Cart next = c.copy();
            goAnHour(next, hourBehind(t), by);
            List<Integer> rest = bestPlan(next, t + 1, left - 1, spot, by == 0 ? may : may - 1);
            if (rest != null) {
                rest.add(0, by + 1);
                return rest;
            }
        }
        return null;
    }

    int reins(int kp, int t, int k) {
        if (!pair(kp) || t < 0 || t > 12 || k < -1) {
            return BAD;
        }
        if (k >= t) {
            return NOT;
        }
        for (int reins = 0; reins <= t; reins++) {
            List<Integer> plan = bestPlan(carts.get(kp / 10), 0, t, places.get(kp % 10)[0], reins);
            if (plan != null) {
                return k == -1 ? reins : plan.get(k);
            }
        }
        return NOT;
    }

    /** Over 12 to the power of t, from all ends. */
    private BigInteger weigh(Cart c, int t, int left, int x, int spot, boolean mean) {
        if (left == 0) {
            int far = apart(c.cell(), spot);
            return BigInteger.valueOf(mean ? far : far <= reach ? 1 : 0);
        }
        Cart plain = c.copy();
        Cart turned = c.copy();
        goAnHour(plain, hourBehind(t), 0);
        goAnHour(turned, hourBehind(t), 1);
        return weigh(turned, t + 1, left - 1, x, spot, mean).multiply(BigInteger.valueOf(x))
            .add(weigh(plain, t + 1, left - 1, x, spot, mean).multiply(BigInteger.valueOf(12 - x)));
    }

    private long fraction(int kp, int t, int x, int part, boolean mean) {
        if (!pair(kp) || t < 0 || t > 8 || x < 0 || x > 12 || part < 0 || part > 1) {
            return Long.MIN_VALUE;
        }
        BigInteger above = weigh(carts.get(kp / 10), 0, t, x, places.get(kp % 10)[0], mean);
        BigInteger below = BigInteger.valueOf(12).pow(t);
        BigInteger common = above.gcd(below);
        return (part == 0 ? above : below).divide(common).longValueExact();
    }

    long chance(int kp, int t, int x, int part) {
        return fraction(kp, t, x, part, false);
    }

    long mean(int kp, int t, int x, int part) {
        return fraction(kp, t, x, part, true);
    }

    private int played(Cart c, int t, int n, int spot) {
        if (t == n) {
            return apart(c.cell(), spot);
        }
        List<Integer> ends = new ArrayList<>();
        for (int by = -1; by <= 1; by++) {
            Cart next = c.copy();
            goAnHour(next, hourBehind(t), by);
            ends.add(played(next, t + 1, n, spot));
        }
        return t % 2 == 0 ? ends.stream().min(Integer::compare).get() : ends.stream().max(Integer::compare).get();
    }

    int byTurns(int kp, int n, int what) {
        if (!pair(kp) || n < 1 || n > 6 || what < 0 || what > 1) {
            return BAD;
        }
        int spot = places.get(kp % 10)[0];
        int best = played(carts.get(kp / 10), 0, n, spot);
        if (what == 0) {
            return best;
        }
        for (int does : new int[] {1, 0, 2}) {
            Cart next = carts.get(kp / 10).copy();
            goAnHour(next, hour, does - 1);
            if (played(next, 1, n, spot) == best) {
                return does;
            }
        }
        throw new IllegalStateException();
    }

    int drawn(int seed, int nm, int p) {
        int n = nm / 100;
        int m = nm % 100;
        if (nm < 0 || n < 1 || n > 30 || m < 1 || m > 40 || p < -1 || p >= places.size()) {
            return BAD;
        }
        int z = seed;
        int sum = 0;
        for (int year = 0; year < n; year++) {
            List<Cart> year0 = new ArrayList<>();
            for (Cart c : carts) {
                year0.add(c.copy());
            }
            for (int t = 0; t < m; t++) {
                for (Cart c : year0) {
                    z = z * 1103515245 + 12345;
                    goAnHour(c, hourBehind(t), (z >>> 8) % 3 - 1);
                }
            }
            for (int q = 0; q < places.size(); q++) {
                int spot = places.get(q)[0];
                long at = year0.stream().filter(c -> near(c.cell(), spot)).count();
                sum += p == -1 ? Math.min(1, at) : p == q ? at : 0;
            }
        }
        return sum;
    }

    int hour() {
        for (Cart c : carts) {
            goAnHour(c, hour, 0);
            led[1] += c.steps;
            for (int[] p : places) {
                led[4] += near(c.cell(), p[0]) ? 1 : 0;
            }
        }
        hour = Math.min(99, hour + 1);
        led[0]++;
        return hour;
    }

    int rein(int k, int by) {
        if (!cart(k) || by < 0 || by > 1) {
            return BAD;
        }
        led[2]++;
        return carts.get(k).way = (carts.get(k).way + (by == 0 ? 7 : 1)) % 8;
    }

    int shoe(int k) {
        if (!cart(k)) {
            return BAD;
        }
        int was = carts.get(k).shoe;
        carts.get(k).shoe = 9;
        led[3]++;
        return was;
    }

    int buys(int p) {
        if (!isPlace(p)) {
            return BAD;
        }
        int was = places.get(p)[1];
        places.get(p)[1] = 9;
        return was;
    }

    int led(int what) {
        return what < 0 || what > 4 ? BAD : led[what];
    }

    int image() {
        imageCarts = new ArrayList<>();
        for (Cart c : carts) {
            imageCarts.add(c.copy());
        }
        imageHour = hour;
        imageLed = led.clone();
        return led[0];
    }

    int back() {
        if (imageCarts == null) {
            return STATE;
        }
        for (Cart then : imageCarts) {
            Cart c = carts.get(then.number);
            c.x = then.x;
            c.y = then.y;
            c.way = then.way;
            c.shoe = then.shoe;
        }
        hour = imageHour;
        System.arraycopy(imageLed, 0, led, 0, 5);
        return led[0];
    }

    int undo() {
        if (done.isEmpty()) {
            return STATE;
        }
        int[] change = done.remove(done.size() - 1);
        undone.add(change);
        set(change[0], change[1], change[2]);
        return done.size();
    }

    int redo() {
        if (undone.isEmpty()) {
            return STATE;
        }
        int[] change = undone.remove(undone.size() - 1);
        done.add(change);
        set(change[0], change[1], change[3]);
        return undone.size();
    }

    // ---- acts: here by Java's own inheritance

    interface Faces {
        int n();

        void ran(int body);

        default int faces(int x) {
            ran(1);
            return x + n();
        }
    }

    interface Tells {
        void ran(int body);

        int drives(int x);

        int weeps(int x);

        default int tells(int x) {
            ran(2);
            return drives(x) - weeps(1);
        }
    }

    static class Coachman implements Faces, Tells {
        int n;
        List<Integer> trail;

        public int n() {
            return n;
        }

        public void ran(int body) {
            trail.add(body);
        }

        public int drives(int x) {
            ran(10);
            return faces(x) * 2;
        }

        public int weeps(int x) {
            ran(11);
            return x ^ n;
        }
    }

    static class Father extends Coachman {
        public int faces(int x) {
            ran(20);
            return super.faces(x) + 3;
        }
    }

    static class Budd extends Coachman {
        public int drives(int x) {
            ran(30);
            return -super.drives(x);
        }
    }

    static class Farm extends Budd {
        public int weeps(int x) {
            ran(40);
            return super.weeps(x) * 3;
        }

        public int drives(int x) {
            ran(41);
            return super.drives(x + 1);
        }
    }

    static class Glove extends Father {
        public int tells(int x) {
            ran(50);
            return super.tells(x) ^ 5;
        }
    }

    static class Eldest extends Farm {
        public int weeps(int x) {
            ran(60);
            return super.weeps(x) - faces(2);
        }

        public int tells(int x) {
            ran(61);
            return super.tells(x) + 1;
        }
    }

    static class Ludlow extends Coachman {
        public int faces(int x) {
            ran(70);
            return super.faces(x) * 2;
        }
    }

    static class Rein extends Ludlow {
        public int drives(int x) {
            ran(80);
            return super.drives(x) + weeps(2);
        }

        public int faces(int x) {
            ran(81);
            return super.faces(x) - 1;
        }
    }

    private static Coachman made(int kind) {
        switch (kind) {
            case 0: return new Coachman();
            case 1: return new Father();
            case 2: return new Budd();
            case 3: return new Farm();
            case 4: return new Glove();
            case 5: return new Eldest();
            case 6: return new Ludlow();
            default: return new Rein();
        }
    }

    int body(int kind) {
        if (kind < 0 || kind > 7) {
            return BAD;
        }
        if (bodies.size() == 50) {
            return FULL;
        }
        bodies.add(kind);
        return bodies.size() - 1;
    }

    int act(int body, int act, int x) {
        trail = new ArrayList<>();
        if (body < 0 || body >= bodies.size() || act < 0 || act > 3) {
            return 0;
        }
        Coachman c = made(bodies.get(body));
        c.n = body;
        c.trail = trail;
        return act == 0 ? c.faces(x) : act == 1 ? c.drives(x) : act == 2 ? c.weeps(x) : c.tells(x);
    }

    int trace(int i) {
        return i < 0 || i >= Math.min(24, trail.size()) ? BAD : trail.get(i);
    }

    int keep(int shelf, int body) {
        if (shelf < 0 || shelf > 5 || body < -1 || body >= bodies.size()) {
            return BAD;
        }
        shelves[shelf] = body == -1 ? null : (Integer) body;
        return 1;
    }

    int row(int shelf, int sort, int n) {
        if (shelf < 0 || shelf > 5 || sort < 0 || sort > 4 || n > 60) {
            return BAD;
        }
        if (n < 0) {
            return -14;
        }
        shelves[shelf] = new Row(sort, n);
        return 1;
    }

    int put(int shelf, int i, long v) {
        if (shelf < 0 || shelf > 5) {
            return BAD;
        }
        if (shelves[shelf] == null) {
            return -11;
        }
        if (!(shelves[shelf] instanceof Row r)) {
            return -12;
        }
        if (i < 0 || i >= r.items.length) {
            return -13;
        }
        int[] bits = {8, 16, 32, 64};
        r.items[i] = r.sort == 4 ? (v != 0 ? 1 : 0) : v << 64 - bits[r.sort] >> 64 - bits[r.sort];
        return 1;
    }

    long element(int shelf, int i) {
        if (shelf < 0 || shelf > 5 || !(shelves[shelf] instanceof Row r) || i < 0 || i >= r.items.length) {
            return Long.MIN_VALUE;
        }
        return r.items[i];
    }

    int shift(int shelf, int i, int other, int j, int n) {
        if (shelf < 0 || shelf > 5 || other < 0 || other > 5) {
            return BAD;
        }
        if (shelves[shelf] == null || shelves[other] == null) {
            return -11;
        }
        if (!(shelves[shelf] instanceof Row a) || !(shelves[other] instanceof Row b) || a.sort != b.sort) {
            return -12;
        }
        if (n < 0 || i < 0 || j < 0 || (long) i + n > a.items.length || (long) j + n > b.items.length) {
            return -13;
        }
        long[] before = a.items.clone();
        for (int e = 0; e < n; e++) {
            b.items[j + e] = before[i + e];
        }
        return n;
    }

    int taken(int shelf, int k) {
        if (shelf < 0 || shelf > 5 || k < 0 || k > 7) {
            return BAD;
        }
        if (shelves[shelf] == null) {
            return -11;
        }
        if (!(shelves[shelf] instanceof Integer b)) {
            return -12;
        }
        int kind = bodies.get(b);
        return made(k).getClass().isInstance(made(kind)) ? kind : -12;
    }

    int count(int what) {
        switch (what) {
            case 0: return carts.size();
            case 1: return places.size();
            case 2: return tape.length();
            case 3: return done.size();
            case 4: return bodies.size();
            case 5: return trail.size();
            default: return BAD;
        }
    }
}
