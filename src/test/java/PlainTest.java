import java.util.Random;

/** Runs of calls by draws, each answer held against Plain's; the draws are the same each time. */
public final class PlainTest {
    private static final int RUNS = 300, CALLS = 500, LAWS = 20000;

    private final Random draw;
    private final CoachmenFace face = new CoachmenFace();
    private final Plain plain = new Plain();
    private final int run;
    private final StringBuilder told = new StringBuilder();
    private boolean wrong = false;

    private PlainTest(int run) {
        this.run = run;
        this.draw = new Random(run * 7919L + 1);
    }

    public static void main(String[] args) {
        for (int run = 0; run < RUNS && Check.allWell(); run++) {
            new PlainTest(run).go();
        }
        longReins();
        laws();
        Check.end();
    }

    /** Twelve hours, rein by rein; few lands, since Plain tries all plans. */
    private static void longReins() {
        for (int run = 0; run < 12 && Check.allWell(); run++) {
            PlainTest test = new PlainTest(100000 + run);
            test.carriage(test.draw.nextInt(256), test.draw.nextInt(8));
            test.place(test.draw.nextInt(256));
            test.mend(0, 2, 1 + run % 2);
            test.tell(lawText(test.draw));
            for (int k = -1; k <= 12; k += k < 0 || k > 8 ? 1 : 5) {
                test.same("reins(0, 12, " + k + ")", test.face.reins(0, 12, k), test.plain.reins(0, 12, k));
            }
        }
    }

    private void same(String call, long got, long want) {
        told.append(call).append(" -> ").append(got).append('\n');
        Check.due("run " + run + ": " + call, got, want);
        wrong |= got != want;
    }

    private void go() {
        prepare();
        for (int i = 0; i < CALLS - 60 && !wrong; i++) {
            callAny();
        }
        if (wrong) {
            System.out.println(told);
        }
    }

    private void prepare() {
        for (int k = draw.nextInt(7); k > 0; k--) {
            carriage(draw.nextInt(256), draw.nextInt(8));
        }
        for (int p = draw.nextInt(9); p > 0; p--) {
            place(draw.nextInt(256));
        }
        for (int k = 0; k < face.count(0); k++) {
            mend(k, 2, 1 + draw.nextInt(4));
            if (draw.nextBoolean()) {
                mend(k, 3, draw.nextInt(10));
            }
        }
        if (draw.nextBoolean()) {
            tell(lawText(draw));
        }
    }

    /** Mostly what is there, now and then what is not. */
    private int some(int many) {
        int which = draw.nextInt(40);
        if (which == 0) {
            return -1;
        }
        if (which == 1) {
            return many;
        }
        if (which == 2) {
            return draw.nextBoolean() ? Integer.MAX_VALUE : Integer.MIN_VALUE;
        }
        return draw.nextInt(Math.max(1, many));
    }

    private int cart() {
        return some(face.count(0));
    }

    private int spot() {
        return some(face.count(1));
    }

    private int pair(int tens, int ones) {
        int which = draw.nextInt(60);
        if (which == 0) {
            return draw.nextInt();
        }
        if (which == 1) {
            return draw.nextInt(120) - 20;
        }
        return 10 * draw.nextInt(Math.max(1, tens)) + draw.nextInt(Math.max(1, ones));
    }

    private int kp() {
        return pair(face.count(0), face.count(1));
    }

    private void callAny() {
        switch (draw.nextInt(45)) {
            case 0: carriage(some(256), some(8)); break;
            case 1: fromRow(); break;
            case 2: place(some(256)); break;
            case 3: case 4: case 5: mendAny(); break;
            case 6: ofAny(); break;
            case 7: tell(draw.nextInt(3) == 0 ? spoilt(draw) : lawText(draw)); break;
            case 8: { int k = cart(); same("turn(" + k + ")", face.turn(k), plain.turn(k)); break; }
            case 9: case 10: laterAny(); break;
            case 11: { int a = kp(), n = some(61), w = some(2); same("nears(" + a + ", " + n + ", " + w + ")", face.nears(a, n, w), plain.nears(a, n, w)); break; }
            case 12: { int k = cart(), n = some(61), w = some(2); same("passes(" + k + ", " + n + ", " + w + ")", face.passes(k, n, w), plain.passes(k, n, w)); break; }
            case 13: { int ab = pair(face.count(0), face.count(0)); same("meet(" + ab + ")", face.meet(ab), plain.meet(ab)); break; }
            case 14: { int ab = pair(face.count(0), face.count(0)), n = some(61); same("often(" + ab + ", " + n + ")", face.often(ab, n), plain.often(ab, n)); break; }
            case 15: { int c = some(256), n = some(61); same("who(" + c + ", " + n + ")", face.who(c, n), plain.who(c, n)); break; }
            case 16: case 17: { int ft = pair(face.count(1), face.count(1)), w = some(2); same("soonest(" + ft + ", " + w + ")", face.soonest(ft, w), plain.soonest(ft, w)); break; }
            case 18: case 19: { int k = 1 + some(3), n = some(31), w = some(2); same("buy(" + k + ", " + n + ", " + w + ")", face.buy(k, n, w), plain.buy(k, n, w)); break; }
            case 20: case 21: dine(); break;
            case 22: { int a = kp(), t = draw.nextInt(20) == 0 ? 8 + draw.nextInt(3) : some(8), k = some(t + 2) - 1; same("reins(" + a + ", " + t + ", " + k + ")", face.reins(a, t, k), plain.reins(a, t, k)); break; }
            case 23: { int a = kp(), t = some(9), x = some(13), part = some(2); same("chance(" + a + ", " + t + ", " + x + ", " + part + ")", face.chance(a, t, x, part), plain.chance(a, t, x, part)); break; }
            case 24: { int a = kp(), t = some(9), x = some(13), part = some(2); same("mean(" + a + ", " + t + ", " + x + ", " + part + ")", face.mean(a, t, x, part), plain.mean(a, t, x, part)); break; }
            case 25: { int a = kp(), n = 1 + some(6), w = some(2); same("byTurns(" + a + ", " + n + ", " + w + ")", face.byTurns(a, n, w), plain.byTurns(a, n, w)); break; }
            case 26: { int s = draw.nextInt(), nm = 100 * (1 + some(30)) + 1 + some(40), p = some(face.count(1) + 1) - 1; same("drawn(" + s + ", " + nm + ", " + p + ")", face.drawn(s, nm, p), plain.drawn(s, nm, p)); break; }
            case 27: case 28: same("hour()", face.hour(), plain.hour()); break;
            case 29: { int k = cart(), by = some(2); same("rein(" + k + ", " + by + ")", face.rein(k, by), plain.rein(k, by)); break; }
            case 30: { int k = cart(); same("shoe(" + k + ")", face.shoe(k), plain.shoe(k)); break; }
            case 31: { int p = spot(); same("buys(" + p + ")", face.buys(p), plain.buys(p)); break; }
            case 32: { int w = some(5); same("led(" + w + ")", face.led(w), plain.led(w)); break; }
            case 33: if (draw.nextBoolean()) { same("image()", face.image(), plain.image()); } else { same("back()", face.back(), plain.back()); } break;
            case 34: case 35: same("undo()", face.undo(), plain.undo()); break;
            case 36: same("redo()", face.redo(), plain.redo()); break;
            case 37: { int k = some(8); same("body(" + k + ")", face.body(k), plain.body(k)); break; }
            case 38: actAny(); break;
            case 39: { int s = some(6), b = some(face.count(4) + 1) - 1; same("keep(" + s + ", " + b + ")", face.keep(s, b), plain.keep(s, b)); break; }
            case 40: { int s = some(6), sort = some(5), n = some(61); same("row(" + s + ", " + sort + ", " + n + ")", face.row(s, sort, n), plain.row(s, sort, n)); break; }
            case 41: putAny(); break;
            case 42: { int s = some(6), o = some(6), i = some(20), j = some(20), n = some(20); same("shift(" + s + ", " + i + ", " + o + ", " + j + ", " + n + ")", face.shift(s, i, o, j, n), plain.shift(s, i, o, j, n)); break; }
            case 43: { int s = some(6), k = some(8); same("taken(" + s + ", " + k + ")", face.taken(s, k), plain.taken(s, k)); break; }
            default: { int w = some(6); same("count(" + w + ")", face.count(w), plain.count(w)); break; }
        }
    }

    private void carriage(int cell, int way) {
        same("carriage(" + cell + ", " + way + ")", face.carriage(cell, way), plain.carriage(cell, way));
    }

    private void place(int cell) {
        same("place(" + cell + ")", face.place(cell), plain.place(cell));
    }

    private void mend(int number, int what, int v) {
        same("mend(" + number + ", " + what + ", " + v + ")", face.mend(number, what, v), plain.mend(number, what, v));
    }

    private void mendAny() {
        int[] sizes = {256, 8, 5, 10, 256, 10, 6, 7, 100};
        int what = some(9);
        int number = what < 0 || what > 8 ? 0 : what < 4 ? cart() : what < 6 ? spot() : draw.nextInt(20) == 0 ? 1 : 0;
        int v = what < 0 || what > 8 ? 0 : some(sizes[what]) - (what == 7 ? 3 : 0);
        mend(number, what, v);
    }

    private void ofAny() {
        int what = some(9);
        int number = what >= 6 ? 0 : what < 4 ? cart() : spot();
        same("of(" + number + ", " + what + ")", face.of(number, what), plain.of(number, what));
    }

    private void laterAny() {
        int k = cart();
        int n = some(61);
        int what = some(3);
        same("later(" + k + ", " + n + ", " + what + ")", face.later(k, n, what), plain.later(k, n, what));
    }

    private void put(int shelf, int i, long v) {
        same("put(" + shelf + ", " + i + ", " + v + ")", face.put(shelf, i, v), plain.put(shelf, i, v));
    }

    private void putAny() {
        int shelf = some(6);
        int i = some(10);
        put(shelf, i, draw.nextBoolean() ? draw.nextLong() : draw.nextInt(300) - 20);
        same("element(" + shelf + ", " + i + ")", face.element(shelf, i), plain.element(shelf, i));
    }

    private void row(int shelf, int sort, int n) {
        same("row(" + shelf + ", " + sort + ", " + n + ")", face.row(shelf, sort, n), plain.row(shelf, sort, n));
    }

    private void fromRow() {
        int shelf = draw.nextInt(6);
        if (draw.nextInt(4) > 0) {
            int n = draw.nextInt(12);
            row(shelf, 1, n);
            for (int i = 0; i < n; i++) {
                put(shelf, i, i % 3 == 0 ? some(256) : i % 3 == 1 ? some(8) : 1 + some(4));
            }
        }
        int i = some(9);
        int n = 1 + some(6);
        same("carriages(" + shelf + ", " + i + ", " + n + ")", face.carriages(shelf, i, n), plain.carriages(shelf, i, n));
    }

    private void dine() {
        int shelf = draw.nextInt(12) == 0 ? some(6) : 0;
        if (shelf == 0 && draw.nextInt(3) > 0) {
            int twos = draw.nextInt(10) == 0 ? 18 + draw.nextInt(12) : draw.nextInt(4);
            int n = 2 * twos + (draw.nextInt(10) == 0 ? 1 : 0);
            row(0, 0, n);
            // twos that are so for a carriage, so that something fits
            int k = draw.nextInt(Math.max(1, face.count(0)));
            for (int i = 0; i + 1 < n; i += 2) {
                int t = draw.nextInt(61);
                int p = draw.nextInt(Math.max(1, face.count(1)));
                for (int tries = 0; tries < 200 && draw.nextInt(100) > 1; tries++) {
                    if (plain.nears(10 * k + p, t, 1) == t && plain.nears(10 * k + p, t, 0) <= face.of(0, 6)) {
                        break;
                    }
                    t = draw.nextInt(61);
                    p = draw.nextInt(Math.max(1, face.count(1)));
                }
                put(0, i, draw.nextInt(50) == 0 ? some(61) : t);
                put(0, i + 1, draw.nextInt(50) == 0 ? spot() : p);
            }
        }
        int k = cart();
        int what = some(4);
        same("judge(" + shelf + ", " + k + ")", face.judge(shelf, k), plain.judge(shelf, k));
        same("dined(" + shelf + ", " + k + ", " + what + ")", face.dined(shelf, k, what), plain.dined(shelf, k, what));
    }

    private void actAny() {
        int b = some(face.count(4));
        int a = some(4);
        int x = draw.nextInt(3) == 0 ? draw.nextInt() : draw.nextInt(20);
        same("act(" + b + ", " + a + ", " + x + ")", face.act(b, a, x), plain.act(b, a, x));
        for (int i = -1; i <= face.count(5) && i <= 25; i++) {
            same("trace(" + i + ")", face.trace(i), plain.trace(i));
        }
        same("count(5)", face.count(5), plain.count(5));
    }

    private void tell(String text) {
        told.append("feed: ").append(text).append('\n');
        for (int i = 0; i < text.length(); i++) {
            int letter = text.charAt(i);
            Check.due("feed", face.feed(letter), plain.feed(letter));
        }
        same("law() of " + text, face.law(), plain.law());
    }

    // ---- texts

    private static void laws() {
        Random draw = new Random(4711);
        for (int i = 0; i < LAWS && Check.allWell(); i++) {
            String text = i % 2 == 0 ? lawText(draw) : spoilt(draw);
            CoachmenFace f = new CoachmenFace();
            Plain p = new Plain();
            int k = draw.nextInt(3);
            for (int c = 0; c <= k; c++) {
                int way = draw.nextInt(8);
                f.carriage(0, way);
                p.carriage(0, way);
            }
            int[] v = {1 + draw.nextInt(4), draw.nextInt(10), 0, 0, 0, draw.nextInt(7) - 3, draw.nextInt(100)};
            for (int what : new int[] {2, 3, 7, 8}) {
                f.mend(what < 4 ? k : 0, what, v[what - 2]);
                p.mend(what < 4 ? k : 0, what, v[what - 2]);
            }
            for (int c = 0; c < text.length(); c++) {
                Check.due("feed", f.feed(text.charAt(c)), p.feed(text.charAt(c)));
            }
            Check.due("law() of " + text, f.law(), p.law());
            for (int c = 0; c <= k; c++) {
                Check.due("turn(" + c + ") by " + text, f.turn(c), p.turn(c));
            }
        }
    }

    private static String lawText(Random draw) {
        while (true) {
            StringBuilder s = new StringBuilder();
            int lines = 1 + draw.nextInt(4);
            for (int i = 0; i < lines; i++) {
                s.append(i > 0 ? ";" : "").append(e(draw, 0));
                if (draw.nextInt(3) > 0) {
                    s.append('?').append(e(draw, 0));
                }
            }
            if (s.length() <= 120) {
                return s.toString();
            }
        }
    }

    private static String e(Random draw, int open) {
        return chain(draw, open, 0);
    }

    private static String chain(Random draw, int open, int level) {
        String[] signs = {"|", "&", "<=>", "+-", "*/%"};
        if (level == 5) {
            return o(draw, open);
        }
        StringBuilder s = new StringBuilder(chain(draw, open, level + 1));
        int most = level == 2 ? 1 : 3;
        for (int i = 0; i < most && draw.nextInt(5) == 0; i++) {
            s.append(signs[level].charAt(draw.nextInt(signs[level].length()))).append(chain(draw, open, level + 1));
        }
        return s.toString();
    }

    private static String o(Random draw, int open) {
        int which = draw.nextInt(10);
        if (which < 3 && open < 6) {
            return which == 0 ? "!" + o(draw, open + 1) : which == 1 ? "-" + o(draw, open + 1) : "(" + e(draw, open + 1) + ")";
        }
        if (which < 7) {
            return String.valueOf("wshdkp".charAt(draw.nextInt(6)));
        }
        int[] bounds = {10, 10, 3, 100, 10000};
        return String.valueOf(draw.nextInt(bounds[draw.nextInt(5)]));
    }

    /** A text with some bytes changed, added, taken out or cut off. */
    private static String spoilt(Random draw) {
        StringBuilder s = new StringBuilder(lawText(draw));
        String bytes = "0123456789wshdkp!-()?;|&<=>+*/%(((!!--- a\u00ff";
        for (int i = 1 + draw.nextInt(3); i > 0; i--) {
            int at = draw.nextInt(s.length() + 1);
            char c = bytes.charAt(draw.nextInt(bytes.length()));
            switch (draw.nextInt(4)) {
                case 0: s.insert(at, c); break;
                case 1: if (at < s.length()) { s.setCharAt(at, c); } break;
                case 2: if (at < s.length()) { s.deleteCharAt(at); } break;
                default: if (draw.nextInt(3) == 0) { s.setLength(at); } else { s.insert(at, "((((-!((".substring(draw.nextInt(8))); } break;
            }
        }
        if (s.length() > 120) {
            s.setLength(120);
        }
        return s.toString();
    }
}
