import java.util.function.Consumer;
import java.util.function.ToLongFunction;

/**
 * "What is answered so changes nothing": each call refused for each of its arguments, too small and too
 * large, on one of two objects of the same making; then all that both can tell must be alike.
 */
public final class RefusalsTest {
    private static final int BAD = CoachmenFace.BAD, NOT = CoachmenFace.NOT, FULL = CoachmenFace.FULL;
    private static final int STATE = CoachmenFace.STATE, VOID = CoachmenFace.VOID;
    private static final int NOTHING = -11, KIND = -12, NO_PLACE = -13, SIZE = -14;
    private static final int MAX = Integer.MAX_VALUE, MIN = Integer.MIN_VALUE;
    private static final long LMIN = Long.MIN_VALUE;
    /** On every land but the empty one: shelves 0 to 3 hold these, 4 and 5 nothing. */
    private static final int BYTES = 0, SHORTS = 1, EMPTY = 2, BODY = 3, NONE = 4;

    private static Consumer<CoachmenFace> land;

    private static void refused(String call, long want, ToLongFunction<CoachmenFace> asked) {
        CoachmenFace f = new CoachmenFace();
        CoachmenFace untouched = new CoachmenFace();
        land.accept(f);
        land.accept(untouched);
        Check.due(call, asked.applyAsLong(f), want);
        Check.due(call + " changes nothing", all(f).equals(all(untouched)));
    }

    /** All that an object tells; what can only be seen by doing comes last. Some 260 calls, so that 512 are not passed. */
    private static String all(CoachmenFace f) {
        StringBuilder s = new StringBuilder();
        state(f, s);
        s.append(f.law()).append(' ');
        turns(f, s);
        s.append(f.redo()).append(' ').append(f.undo()).append(' ').append(f.undo()).append(' ').append(f.back()).append(' ');
        state(f, s);
        return s.toString();
    }

    private static void turns(CoachmenFace f, StringBuilder s) {
        for (int k = 0; k < 6; k++) {
            s.append(f.turn(k)).append(' ');
        }
    }

    private static void state(CoachmenFace f, StringBuilder s) {
        for (int what = 0; what < 6; what++) {
            s.append(f.count(what)).append(' ');
        }
        for (int what = 0; what < 5; what++) {
            s.append(f.led(what)).append(' ');
        }
        int carriages = f.count(0);
        int places = f.count(1);
        for (int what = 0; what <= 8; what++) {
            for (int number = 0; number < (what < 4 ? carriages : what < 6 ? places : 1); number++) {
                s.append(f.of(number, what)).append(' ');
            }
        }
        for (int shelf = 0; shelf < 6; shelf++) {
            s.append(f.taken(shelf, 0)).append(' ');
            for (int i = 0; i < 4; i++) {
                s.append(f.element(shelf, i)).append(' ');
            }
        }
        for (int i = 0; i < 5; i++) {
            s.append(f.trace(i)).append(' ');
        }
        turns(f, s);
    }

    private static void shelves(CoachmenFace f) {
        f.row(BYTES, 0, 4);
        f.put(BYTES, 0, 3);
        f.put(BYTES, 1, 1);
        f.row(SHORTS, 1, 3);
        f.put(SHORTS, 0, 7);
        f.put(SHORTS, 2, 2);
        f.row(EMPTY, 0, 0);
        f.keep(BODY, 0);
        f.act(0, 3, 5);
    }

    private static void feed(CoachmenFace f, String text) {
        for (int i = 0; i < text.length(); i++) {
            f.feed(text.charAt(i));
        }
    }

    /** Two carriages, two places, two bodies (a GLOVE, an ELDEST), an image, changes done and undone. */
    private static void someLand(CoachmenFace f) {
        f.carriage(100, 3);
        f.carriage(17, 6);
        f.place(40);
        f.place(119);
        f.body(4);
        f.body(5);
        feed(f, "d%3-1");
        f.law();
        feed(f, "h=1");
        f.hour();
        f.image();
        f.hour();
        f.rein(1, 1);
        f.shoe(0);
        f.buys(1);
        f.mend(0, 6, 2);
        f.mend(1, 2, 3);
        f.mend(1, 5, 4);
        f.undo();
        shelves(f);
    }

    /** All that can be full is. */
    private static void fullLand(CoachmenFace f) {
        for (int k = 0; k < 6; k++) {
            f.carriage(40 * k, k);
        }
        for (int p = 0; p < 8; p++) {
            f.place(30 * p);
        }
        for (int i = 0; i < 60; i++) {
            f.feed('1');
            f.feed('-');
        }
        for (int n = 0; n < 50; n++) {
            f.body(n % 8);
        }
        shelves(f);
    }

    private static void emptyLand(CoachmenFace f) {
        // as it was made
    }

    public static void main(String[] args) {
        land = RefusalsTest::someLand;
        arguments();
        shelvesRefused();
        notAnswered();
        land = RefusalsTest::fullLand;
        full();
        land = RefusalsTest::emptyLand;
        lacking();
        Check.end();
    }

    private static void arguments() {
        refused("carriage(-1, 0)", BAD, f -> f.carriage(-1, 0));
        refused("carriage(256, 0)", BAD, f -> f.carriage(256, 0));
        refused("carriage(0, -1)", BAD, f -> f.carriage(0, -1));
        refused("carriage(0, 8)", BAD, f -> f.carriage(0, 8));
        refused("place(-1)", BAD, f -> f.place(-1));
        refused("place(256)", BAD, f -> f.place(256));
        int[] least = {0, 0, 1, 0, 0, 0, 0, -3, 0};
        int[] most = {255, 7, 4, 9, 255, 9, 5, 3, 99};
        for (int w = 0; w <= 8; w++) {
            int what = w;
            int above = what < 6 ? 2 : 1;
            refused("mend(0, " + what + ", too small)", VOID, f -> f.mend(0, what, least[what] - 1));
            refused("mend(0, " + what + ", too large)", VOID, f -> f.mend(0, what, most[what] + 1));
            refused("mend(0, " + what + ", MIN)", VOID, f -> f.mend(0, what, MIN));
            refused("mend(0, " + what + ", MAX)", VOID, f -> f.mend(0, what, MAX));
            refused("mend(-1, " + what + ", ..)", VOID, f -> f.mend(-1, what, most[what]));
            refused("mend(" + above + ", " + what + ", ..)", VOID, f -> f.mend(above, what, most[what]));
            refused("of(-1, " + what + ")", VOID, f -> f.of(-1, what));
            refused("of(" + above + ", " + what + ")", VOID, f -> f.of(above, what));
        }
        refused("mend(0, -1, 1)", VOID, f -> f.mend(0, -1, 1));
        refused("mend(0, 9, 1)", VOID, f -> f.mend(0, 9, 1));
        refused("of(0, -1)", VOID, f -> f.of(0, -1));
        refused("of(0, 9)", VOID, f -> f.of(0, 9));
        refused("feed(-1)", BAD, f -> f.feed(-1));
        refused("feed(256)", BAD, f -> f.feed(256));
        refused("turn(-1)", VOID, f -> f.turn(-1));
        refused("turn(2)", VOID, f -> f.turn(2));
        thoughts();
        turnsBeyond();
        deeds();
        refused("body(-1)", BAD, f -> f.body(-1));
        refused("body(8)", BAD, f -> f.body(8));
        refused("trace(-1)", BAD, f -> f.trace(-1));
        refused("trace(6), as many as ran", BAD, f -> f.trace(f.count(5)));
        refused("trace(24)", BAD, f -> f.trace(24));
        refused("count(-1)", BAD, f -> f.count(-1));
        refused("count(6)", BAD, f -> f.count(6));
    }

    private static void thoughts() {
        refused("later(-1, 0, 0)", BAD, f -> f.later(-1, 0, 0));
        refused("later(2, 0, 0)", BAD, f -> f.later(2, 0, 0));
        refused("later(0, -1, 0)", BAD, f -> f.later(0, -1, 0));
        refused("later(0, 61, 0)", BAD, f -> f.later(0, 61, 0));
        refused("later(0, -1, 2)", BAD, f -> f.later(0, -1, 2));
        refused("later(0, 61, 2)", BAD, f -> f.later(0, 61, 2));
        refused("later(0, 0, -1)", BAD, f -> f.later(0, 0, -1));
        refused("later(0, 0, 3)", BAD, f -> f.later(0, 0, 3));
        for (int bad : new int[] {-1, -10, 2, 9, 12, 19, 20, 21, 100, 110, MAX, MIN}) {
            refused("nears(" + bad + ", 0, 0)", BAD, f -> f.nears(bad, 0, 0));
            refused("reins(" + bad + ", 0, -1)", BAD, f -> f.reins(bad, 0, -1));
            refused("chance(" + bad + ", 0, 0, 0)", LMIN, f -> f.chance(bad, 0, 0, 0));
            refused("mean(" + bad + ", 0, 0, 0)", LMIN, f -> f.mean(bad, 0, 0, 0));
            refused("byTurns(" + bad + ", 1, 0)", BAD, f -> f.byTurns(bad, 1, 0));
        }
        for (int bad : new int[] {-1, -10, 0, 11, 2, 9, 12, 19, 20, 21, 22, 100, 101, 110, MAX, MIN}) {
            refused("meet(" + bad + ")", BAD, f -> f.meet(bad));
            refused("often(" + bad + ", 0)", BAD, f -> f.often(bad, 0));
            refused("soonest(" + bad + ", 0)", BAD, f -> f.soonest(bad, 0));
            refused("soonest(" + bad + ", 1)", BAD, f -> f.soonest(bad, 1));
        }
        refused("nears(0, -1, 0)", BAD, f -> f.nears(0, -1, 0));
        refused("nears(0, 61, 0)", BAD, f -> f.nears(0, 61, 0));
        refused("nears(0, 0, -1)", BAD, f -> f.nears(0, 0, -1));
        refused("nears(0, 0, 2)", BAD, f -> f.nears(0, 0, 2));
        refused("passes(-1, 0, 0)", BAD, f -> f.passes(-1, 0, 0));
        refused("passes(2, 0, 0)", BAD, f -> f.passes(2, 0, 0));
        refused("passes(0, -1, 0)", BAD, f -> f.passes(0, -1, 0));
        refused("passes(0, 61, 0)", BAD, f -> f.passes(0, 61, 0));
        refused("passes(0, 0, -1)", BAD, f -> f.passes(0, 0, -1));
        refused("passes(0, 0, 2)", BAD, f -> f.passes(0, 0, 2));
        refused("often(1, -1)", BAD, f -> f.often(1, -1));
        refused("often(1, 61)", BAD, f -> f.often(1, 61));
        refused("who(-1, 0)", BAD, f -> f.who(-1, 0));
        refused("who(256, 0)", BAD, f -> f.who(256, 0));
        refused("who(0, -1)", BAD, f -> f.who(0, -1));
        refused("who(0, 61)", BAD, f -> f.who(0, 61));
        refused("soonest(1, -1)", BAD, f -> f.soonest(1, -1));
        refused("soonest(1, 2)", BAD, f -> f.soonest(1, 2));
        refused("buy(0, 0, 0)", BAD, f -> f.buy(0, 0, 0));
        refused("buy(4, 0, 0)", BAD, f -> f.buy(4, 0, 0));
        refused("buy(1, -1, 0)", BAD, f -> f.buy(1, -1, 0));
        refused("buy(1, 31, 0)", BAD, f -> f.buy(1, 31, 0));
        refused("buy(1, 0, -1)", BAD, f -> f.buy(1, 0, -1));
        refused("buy(1, 0, 2)", BAD, f -> f.buy(1, 0, 2));
    }

    private static void turnsBeyond() {
        refused("reins(0, -1, -1)", BAD, f -> f.reins(0, -1, -1));
        refused("reins(0, 13, -1)", BAD, f -> f.reins(0, 13, -1));
        refused("reins(0, 1, -2)", BAD, f -> f.reins(0, 1, -2));
        refused("reins(0, 13, 13)", BAD, f -> f.reins(0, 13, 13));
        refused("reins(0, 12, 12)", NOT, f -> f.reins(0, 12, 12));
        refused("chance(0, -1, 0, 0)", LMIN, f -> f.chance(0, -1, 0, 0));
        refused("chance(0, 9, 0, 0)", LMIN, f -> f.chance(0, 9, 0, 0));
        refused("chance(0, 0, -1, 0)", LMIN, f -> f.chance(0, 0, -1, 0));
        refused("chance(0, 0, 13, 0)", LMIN, f -> f.chance(0, 0, 13, 0));
        refused("chance(0, 0, 0, -1)", LMIN, f -> f.chance(0, 0, 0, -1));
        refused("chance(0, 0, 0, 2)", LMIN, f -> f.chance(0, 0, 0, 2));
        refused("mean(0, -1, 0, 0)", LMIN, f -> f.mean(0, -1, 0, 0));
        refused("mean(0, 9, 0, 0)", LMIN, f -> f.mean(0, 9, 0, 0));
        refused("mean(0, 0, -1, 0)", LMIN, f -> f.mean(0, 0, -1, 0));
        refused("mean(0, 0, 13, 0)", LMIN, f -> f.mean(0, 0, 13, 0));
        refused("mean(0, 0, 0, -1)", LMIN, f -> f.mean(0, 0, 0, -1));
        refused("mean(0, 0, 0, 2)", LMIN, f -> f.mean(0, 0, 0, 2));
        refused("byTurns(0, 0, 0)", BAD, f -> f.byTurns(0, 0, 0));
        refused("byTurns(0, 7, 0)", BAD, f -> f.byTurns(0, 7, 0));
        refused("byTurns(0, 1, -1)", BAD, f -> f.byTurns(0, 1, -1));
        refused("byTurns(0, 1, 2)", BAD, f -> f.byTurns(0, 1, 2));
        // years 0 and 31, hours 0 and 41 (and 99, which 99 years of another count would let in), below 0
        for (int nm : new int[] {1, 40, 99, 100, 141, 199, 3000, 3041, 3099, 3100, 3101, -1, -101, -140, MAX, MIN}) {
            refused("drawn(1, " + nm + ", -1)", BAD, f -> f.drawn(1, nm, -1));
        }
        refused("drawn(1, 101, -2)", BAD, f -> f.drawn(1, 101, -2));
        refused("drawn(1, 101, 2)", BAD, f -> f.drawn(1, 101, 2));
    }

    private static void deeds() {
        refused("rein(-1, 0)", BAD, f -> f.rein(-1, 0));
        refused("rein(2, 0)", BAD, f -> f.rein(2, 0));
        refused("rein(0, -1)", BAD, f -> f.rein(0, -1));
        refused("rein(0, 2)", BAD, f -> f.rein(0, 2));
        refused("shoe(-1)", BAD, f -> f.shoe(-1));
        refused("shoe(2)", BAD, f -> f.shoe(2));
        refused("buys(-1)", BAD, f -> f.buys(-1));
        refused("buys(2)", BAD, f -> f.buys(2));
        refused("led(-1)", BAD, f -> f.led(-1));
        refused("led(5)", BAD, f -> f.led(5));
    }

    private static void shelvesRefused() {
        for (int bad : new int[] {-1, 6, MIN, MAX}) {
            refused("carriages(" + bad + ", 0, 1)", BAD, f -> f.carriages(bad, 0, 1));
            refused("judge(" + bad + ", 0)", BAD, f -> f.judge(bad, 0));
            refused("dined(" + bad + ", 0, 0)", BAD, f -> f.dined(bad, 0, 0));
            refused("keep(" + bad + ", 0)", BAD, f -> f.keep(bad, 0));
            refused("keep(" + bad + ", -1)", BAD, f -> f.keep(bad, -1));
            refused("row(" + bad + ", 0, 1)", BAD, f -> f.row(bad, 0, 1));
            refused("row(" + bad + ", 0, -1)", BAD, f -> f.row(bad, 0, -1));
            refused("put(" + bad + ", 0, 1)", BAD, f -> f.put(bad, 0, 1));
            refused("element(" + bad + ", 0)", LMIN, f -> f.element(bad, 0));
            refused("shift(" + bad + ", 0, 0, 0, 1)", BAD, f -> f.shift(bad, 0, 0, 0, 1));
            refused("shift(0, 0, " + bad + ", 0, 1)", BAD, f -> f.shift(0, 0, bad, 0, 1));
            refused("taken(" + bad + ", 0)", BAD, f -> f.taken(bad, 0));
        }
        refused("carriages(SHORTS, 0, 0)", BAD, f -> f.carriages(SHORTS, 0, 0));
        refused("carriages(SHORTS, 0, 7)", BAD, f -> f.carriages(SHORTS, 0, 7));
        refused("carriages(BYTES, 0, 1)", KIND, f -> f.carriages(BYTES, 0, 1));
        refused("carriages(BODY, 0, 1)", KIND, f -> f.carriages(BODY, 0, 1));
        for (int bad : new int[] {-1, 2}) {
            refused("judge(BYTES, " + bad + ")", BAD, f -> f.judge(BYTES, bad));
            refused("judge(NONE, " + bad + ")", BAD, f -> f.judge(NONE, bad));
            refused("dined(BYTES, " + bad + ", 0)", BAD, f -> f.dined(BYTES, bad, 0));
            refused("dined(NONE, " + bad + ", 0)", BAD, f -> f.dined(NONE, bad, 0));
            refused("keep(0, " + (bad == 2 ? 2 : -2) + ")", BAD, f -> f.keep(0, bad == 2 ? 2 : -2));
        }
        refused("dined(BYTES, 0, -1)", BAD, f -> f.dined(BYTES, 0, -1));
        refused("dined(BYTES, 0, 4)", BAD, f -> f.dined(BYTES, 0, 4));
        refused("judge(NONE, 0)", NOTHING, f -> f.judge(NONE, 0));
        refused("judge(SHORTS, 0)", KIND, f -> f.judge(SHORTS, 0));
        refused("judge(BODY, 0)", KIND, f -> f.judge(BODY, 0));
        for (int w = 0; w < 4; w++) {
            int what = w;
            refused("dined(NONE, 0, " + what + ")", NOTHING, f -> f.dined(NONE, 0, what));
            refused("dined(SHORTS, 0, " + what + ")", KIND, f -> f.dined(SHORTS, 0, what));
            refused("dined(BODY, 0, " + what + ")", KIND, f -> f.dined(BODY, 0, what));
        }
        rows();
    }

    private static void rows() {
        refused("row(BYTES, -1, 1)", BAD, f -> f.row(BYTES, -1, 1));
        refused("row(BYTES, 5, 1)", BAD, f -> f.row(BYTES, 5, 1));
        refused("row(BYTES, 0, 61)", BAD, f -> f.row(BYTES, 0, 61));
        refused("row(BYTES, 0, MAX)", BAD, f -> f.row(BYTES, 0, MAX));
        refused("row(BYTES, 5, -1)", BAD, f -> f.row(BYTES, 5, -1));
        refused("row(BYTES, 0, -1)", SIZE, f -> f.row(BYTES, 0, -1));
        refused("row(BODY, 4, MIN)", SIZE, f -> f.row(BODY, 4, MIN));
        for (int bad : new int[] {-1, 4, MIN, MAX}) {
            refused("put(BYTES, " + bad + ", 1)", NO_PLACE, f -> f.put(BYTES, bad, 1));
            refused("element(BYTES, " + bad + ")", LMIN, f -> f.element(BYTES, bad));
            refused("put(NONE, " + bad + ", 1)", NOTHING, f -> f.put(NONE, bad, 1));
            refused("put(BODY, " + bad + ", 1)", KIND, f -> f.put(BODY, bad, 1));
        }
        refused("put(EMPTY, 0, 1)", NO_PLACE, f -> f.put(EMPTY, 0, 1));
        refused("element(EMPTY, 0)", LMIN, f -> f.element(EMPTY, 0));
        refused("element(NONE, 0)", LMIN, f -> f.element(NONE, 0));
        refused("element(BODY, 0)", LMIN, f -> f.element(BODY, 0));
        refused("shift(NONE, 0, BYTES, 0, 1)", NOTHING, f -> f.shift(NONE, 0, BYTES, 0, 1));
        refused("shift(BYTES, 0, NONE, 0, 1)", NOTHING, f -> f.shift(BYTES, 0, NONE, 0, 1));
        refused("shift(BODY, 0, NONE, 0, 1)", NOTHING, f -> f.shift(BODY, 0, NONE, 0, 1));
        refused("shift(NONE, 0, BODY, 0, 1)", NOTHING, f -> f.shift(NONE, 0, BODY, 0, 1));
        refused("shift(BODY, 0, BODY, 0, 0)", KIND, f -> f.shift(BODY, 0, BODY, 0, 0));
        refused("shift(BODY, 0, BYTES, 0, 0)", KIND, f -> f.shift(BODY, 0, BYTES, 0, 0));
        refused("shift(BYTES, 0, BODY, 0, 0)", KIND, f -> f.shift(BYTES, 0, BODY, 0, 0));
        refused("shift(BYTES, 0, SHORTS, 0, 0)", KIND, f -> f.shift(BYTES, 0, SHORTS, 0, 0));
        refused("shift(BYTES, -1, SHORTS, 0, 1)", KIND, f -> f.shift(BYTES, -1, SHORTS, 0, 1));
        refused("shift(BYTES, 0, BYTES, 1, -1)", NO_PLACE, f -> f.shift(BYTES, 0, BYTES, 1, -1));
        refused("shift(BYTES, -1, BYTES, 1, 1)", NO_PLACE, f -> f.shift(BYTES, -1, BYTES, 1, 1));
        refused("shift(BYTES, 0, BYTES, -1, 1)", NO_PLACE, f -> f.shift(BYTES, 0, BYTES, -1, 1));
        refused("shift(BYTES, 4, BYTES, 1, 1)", NO_PLACE, f -> f.shift(BYTES, 4, BYTES, 1, 1));
        refused("shift(BYTES, 1, BYTES, 4, 1)", NO_PLACE, f -> f.shift(BYTES, 1, BYTES, 4, 1));
        refused("shift(BYTES, 1, BYTES, 0, 4)", NO_PLACE, f -> f.shift(BYTES, 1, BYTES, 0, 4));
        refused("shift(BYTES, 0, BYTES, 1, 4)", NO_PLACE, f -> f.shift(BYTES, 0, BYTES, 1, 4));
        refused("shift(BYTES, 0, EMPTY, 0, 1)", NO_PLACE, f -> f.shift(BYTES, 0, EMPTY, 0, 1));
        refused("shift(BYTES, MAX, BYTES, 0, 1)", NO_PLACE, f -> f.shift(BYTES, MAX, BYTES, 0, 1));
        refused("shift(BYTES, 1, BYTES, 1, MAX)", NO_PLACE, f -> f.shift(BYTES, 1, BYTES, 1, MAX));
        refused("shift(BYTES, 1, BYTES, 1, MIN)", NO_PLACE, f -> f.shift(BYTES, 1, BYTES, 1, MIN));
        refused("taken(BODY, -1)", BAD, f -> f.taken(BODY, -1));
        refused("taken(BODY, 8)", BAD, f -> f.taken(BODY, 8));
        refused("taken(NONE, 8)", BAD, f -> f.taken(NONE, 8));
        refused("taken(NONE, 0)", NOTHING, f -> f.taken(NONE, 0));
        refused("taken(BYTES, 0)", KIND, f -> f.taken(BYTES, 0));
        refused("taken(BODY, 5)", KIND, f -> f.taken(BODY, 5));
    }

    /** Thoughts change nothing, refused or not; nor do calls by which nothing comes. */
    private static void notAnswered() {
        refused("carriages(NONE, 0, 1)", 0, f -> f.carriages(NONE, 0, 1));
        refused("carriages(SHORTS, -1, 1)", 0, f -> f.carriages(SHORTS, -1, 1));
        refused("carriages(SHORTS, 1, 1)", 0, f -> f.carriages(SHORTS, 1, 1));
        refused("mend() of the same number", 2, f -> f.mend(0, 6, 2));
        refused("shift() of none", 0, f -> f.shift(BYTES, 4, BYTES, 4, 0));
        refused("thoughts", 0, f -> {
            f.later(1, 60, 0);
            f.nears(11, 60, 0);
            f.passes(1, 60, 0);
            f.meet(10);
            f.often(10, 60);
            f.who(17, 60);
            f.soonest(10, 1);
            f.buy(3, 30, 1);
            f.judge(BYTES, 1);
            for (int what = 0; what < 4; what++) {
                f.dined(BYTES, 1, what);
            }
            f.reins(10, 12, -1);
            f.chance(10, 8, 7, 0);
            f.mean(10, 8, 7, 1);
            f.byTurns(10, 6, 1);
            f.drawn(5, 3040, -1);
            return 0;
        });
    }

    private static void full() {
        refused("a seventh carriage", FULL, f -> f.carriage(0, 0));
        refused("a seventh carriage, not as said", BAD, f -> f.carriage(256, 0));
        refused("carriages() onto a full land", 0, f -> f.carriages(SHORTS, 0, 1));
        refused("a ninth place", FULL, f -> f.place(0));
        refused("a ninth place, not as said", BAD, f -> f.place(-1));
        refused("a 121st byte", FULL, f -> f.feed('1'));
        refused("a 121st byte, not as said", BAD, f -> f.feed(256));
        refused("a 51st body", FULL, f -> f.body(0));
        refused("a 51st body, not as said", BAD, f -> f.body(8));
        for (int bad : new int[] {60, 68, 58, 59, 8, 9}) {
            refused("nears(" + bad + ", 0, 0) on a full land", BAD, f -> f.nears(bad, 0, 0));
            refused("meet(" + bad + ") on a full land", BAD, f -> f.meet(bad));
        }
        for (int bad : new int[] {80, 87, 78, 79, 8, 9}) {
            refused("soonest(" + bad + ", 0) on a full land", BAD, f -> f.soonest(bad, 0));
        }
    }

    private static void lacking() {
        refused("undo() of none", STATE, CoachmenFace::undo);
        refused("redo() of none", STATE, CoachmenFace::redo);
        refused("back() without an image", STATE, CoachmenFace::back);
        refused("act() of no body", 0, f -> f.act(0, 0, 1));
        refused("trace() of no act", BAD, f -> f.trace(0));
        refused("turn() of no carriage", VOID, f -> f.turn(0));
        refused("later() of no carriage", BAD, f -> f.later(0, 0, 0));
        refused("passes() of no carriage", BAD, f -> f.passes(0, 0, 0));
        refused("nears() of none", BAD, f -> f.nears(0, 0, 0));
        refused("meet() of none", BAD, f -> f.meet(1));
        refused("often() of none", BAD, f -> f.often(1, 0));
        refused("soonest() of none", BAD, f -> f.soonest(1, 0));
        refused("who() of none", 0, f -> f.who(0, 0));
        refused("buy() of none", 0, f -> f.buy(3, 30, 1));
        refused("judge() of none", BAD, f -> f.judge(0, 0));
        refused("dined() of none", BAD, f -> f.dined(0, 0, 0));
        refused("drawn() near none", 0, f -> f.drawn(1, 101, -1));
        refused("drawn() at no place", BAD, f -> f.drawn(1, 101, 0));
        refused("rein() of none", BAD, f -> f.rein(0, 0));
        refused("shoe() of none", BAD, f -> f.shoe(0));
        refused("buys() of none", BAD, f -> f.buys(0));
        refused("keep() of no body", BAD, f -> f.keep(0, 0));
        refused("element() of nothing", LMIN, f -> f.element(0, 0));
        refused("taken() of nothing", NOTHING, f -> f.taken(0, 0));
        refused("shift() of nothing", NOTHING, f -> f.shift(0, 0, 0, 0, 0));
        refused("carriages() of nothing", 0, f -> f.carriages(0, 0, 6));
        for (int what = 0; what <= 5; what++) {
            int of = what;
            refused("of(0, " + of + ") of none", VOID, f -> f.of(0, of));
            refused("mend(0, " + of + ", 1) of none", VOID, f -> f.mend(0, of, 1));
        }
    }
}
