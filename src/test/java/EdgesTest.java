/**
 * The document's sentences that name a boundary, in its order, each with a test of its own: the label of
 * each answer is the sentence. What is refused stands in RefusalsTest.
 */
public final class EdgesTest {
    private static final int NOT = CoachmenFace.NOT, FULL = CoachmenFace.FULL, STATE = CoachmenFace.STATE;
    private static final int BAD = CoachmenFace.BAD, VOID = CoachmenFace.VOID;
    private static final int MAX = Integer.MAX_VALUE, MIN = Integer.MIN_VALUE;
    private static final long LMIN = Long.MIN_VALUE;

    private static String sentence = "";

    private static void edge(String words) {
        sentence = words;
    }

    private static void due(long got, long want) {
        Check.due(sentence, got, want);
    }

    private static void due(String what, long got, long want) {
        Check.due(sentence + " -- " + what, got, want);
    }

    /** Cells by X and Y. */
    private static int at(int x, int y) {
        return 16 * y + x;
    }

    private static int tell(CoachmenFace f, String text) {
        for (int i = 0; i < text.length(); i++) {
            f.feed(text.charAt(i));
        }
        return f.law();
    }

    private static void fill(CoachmenFace f, int shelf, int sort, long... items) {
        f.row(shelf, sort, items.length);
        for (int i = 0; i < items.length; i++) {
            f.put(shelf, i, items[i]);
        }
    }

    /** A land with one carriage, and a law by which it goes straight on. */
    private static CoachmenFace one(int cell, int way, int pace) {
        CoachmenFace f = new CoachmenFace();
        f.carriage(cell, way);
        f.mend(0, 2, pace);
        tell(f, "0");
        return f;
    }

    public static void main(String[] args) {
        cells();
        apartAndNear();
        numbersAtFirst();
        lawTexts();
        lawNames();
        lawOperands();
        lawNumbers();
        lawSigns();
        lawGives();
        lawLines();
        lawFaults();
        lawTooEarly();
        lawBehindFaults();
        hours();
        hoursOn();
        thoughts();
        meetings();
        soonest();
        buy();
        dined();
        judgedNow();
        dinedWaysFromPaces();
        reins();
        reinsAlike();
        reinsByLaw();
        reinsInCorners();
        chances();
        allPairs();
        byTurns();
        drawn();
        inDeed();
        led();
        changes();
        changesKept();
        images();
        bodies();
        traces();
        shelves();
        carriagesFromRows();
        calls();
        Check.end();
    }

    // ---- part 1

    private static void cells() {
        edge("CELLS are 16 Y and X (X, Y 0 .. 15).");
        CoachmenFace f = one(at(15, 3), 2, 1);
        due("the right edge does not run on into the next row", f.later(0, 1, 0), at(14, 3));
        f = one(at(0, 4), 6, 1);
        due("nor the left edge into the one above", f.later(0, 1, 0), at(1, 4));
        f = one(at(7, 0), 0, 1);
        due("the upper edge", f.later(0, 1, 0), at(7, 1));
        f = one(at(7, 15), 4, 1);
        due("the lower edge", f.later(0, 1, 0), at(7, 14));
        f = one(at(14, 3), 2, 1);
        due("X 15 is land", f.later(0, 1, 0), at(15, 3));
        f = one(at(7, 14), 4, 1);
        due("Y 15 is land", f.later(0, 1, 0), at(7, 15));
        f = one(at(1, 1), 7, 1);
        due("X 0, Y 0 are land", f.later(0, 1, 0), at(0, 0));

        edge("WAY (0 up, Y less; 1 up and right; .. 7 up and left)");
        int[] x = {8, 9, 9, 9, 8, 7, 7, 7};
        int[] y = {7, 7, 8, 9, 9, 9, 8, 7};
        for (int way = 0; way < 8; way++) {
            due("way " + way, one(at(8, 8), way, 1).later(0, 1, 0), at(x[way], y[way]));
        }

        edge("PACE (1 .. 4 CELLS an hour");
        for (int pace = 1; pace <= 4; pace++) {
            due("pace " + pace, one(at(1, 8), 2, pace).later(0, 1, 0), at(1 + pace, 8));
        }
    }

    private static void apartAndNear() {
        edge("APART are two CELLS by the greater of how far X and Y are");
        CoachmenFace f = one(at(15, 0), 2, 1);
        f.place(at(0, 1));
        f.place(at(12, 2));
        f.place(at(13, 3));
        f.place(at(15, 0));
        f.place(at(0, 15));
        due("15 by X, 1 by Y", f.nears(0, 0, 0), 15);
        due("3 by X, 2 by Y", f.nears(1, 0, 0), 3);
        due("2 by X, 3 by Y", f.nears(2, 0, 0), 3);
        due("one cell", f.nears(3, 0, 0), 0);
        due("the corners", f.nears(4, 0, 0), 15);

        edge("NEAR is by REACH or less.");
        for (int reach = 0; reach <= 5; reach++) {
            f = one(at(8, 8), 2, 1);
            f.mend(0, 6, reach);
            f.place(at(8 + reach, 8));
            f.place(at(8, 8 - reach));
            f.place(at(8 + reach, 8 + reach));
            f.place(at(8 - reach - 1, 8));
            f.place(at(8, 8 + reach + 1));
            due("reach " + reach, f.passes(0, 0, 0), 7);
        }
    }

    private static void numbersAtFirst() {
        CoachmenFace f = new CoachmenFace();
        f.carriage(9, 4);
        f.place(9);
        edge("PACE (1 .. 4 CELLS an hour; 1 at first)");
        due(f.of(0, 2), 1);
        edge("SHOE (0 .. 9 hours the lead horse's holds; 9 at first)");
        due(f.of(0, 3), 9);
        edge("WORTH (0 .. 9; 1 at first)");
        due(f.of(0, 5), 1);
        edge("REACH (0 .. 5; 1 at first)");
        due(f.of(0, 6), 1);
        edge("WIND (-3 .. 3; 0 at first)");
        due(f.of(0, 7), 0);
        edge("HOUR (0 .. 99; 0 at first)");
        due(f.of(0, 8), 0);
        int[] least = {0, 0, 1, 0, 0, 0, 0, -3, 0};
        int[] most = {255, 7, 4, 9, 255, 9, 5, 3, 99};
        String[] names = {"CELL", "WAY", "PACE", "SHOE", "CELL of a PLACE", "WORTH", "REACH", "WIND", "HOUR"};
        for (int what = 0; what <= 8; what++) {
            edge(names[what] + " from its least to its most");
            int was = f.of(0, what);
            for (int v = least[what]; v <= most[what]; v++) {
                due("what it was", f.mend(0, what, v), was);
                due("what it is", f.of(0, what), v);
                was = v;
            }
            due("one less than the least", f.mend(0, what, least[what] - 1), VOID);
            due("one more than the most", f.mend(0, what, most[what] + 1), VOID);
            due("as it was", f.of(0, what), most[what]);
            f = new CoachmenFace();
            f.carriage(9, 4);
            f.place(9);
        }
        edge("WIND may be less than 0, so VOID, not BAD, is the refusal of mend() and of()");
        f.mend(0, 7, -1);
        due("-1 is a wind", f.of(0, 7), -1);
        due("and what it was", f.mend(0, 7, -2), -1);
    }

    /** What a text gives for carriage 1 (WAY 5, PACE 3, SHOE 4; WIND -2, HOUR 30). */
    private static int gives(String text) {
        CoachmenFace f = new CoachmenFace();
        f.carriage(0, 0);
        f.carriage(100, 5);
        f.mend(1, 2, 3);
        f.mend(1, 3, 4);
        f.mend(0, 7, -2);
        f.mend(0, 8, 30);
        due("law() of " + text, tell(f, text), 1);
        return f.turn(1);
    }

    private static void isSo(String text) {
        due(text, gives(text), 1);
    }

    private static void lawTexts() {
        edge("THE LAW is a TEXT by THE TAPE (at most 120 bytes)");
        StringBuilder s = new StringBuilder("1");
        while (s.length() < 119) {
            s.append("+1");
        }
        s.setLength(118);
        s.append("00");
        due("it has 120", s.length(), 120);
        CoachmenFace f = new CoachmenFace();
        f.carriage(0, 0);
        due("a text of 120 bytes", tell(f, s.toString()), 1);
        due("gives", f.turn(0), 1);
        due("120 bytes, each of which counts by itself", tell(f, "-1" + "+0".repeat(59)), 1);
        due("gives", f.turn(0), -1);
        for (int i = 1; i <= 120; i++) {
            due("byte " + i, f.feed('('), i);
        }
        due("one more", f.feed('('), FULL);
    }

    private static void lawNames() {
        edge("NAMES: w WIND, s SHOE, h HOUR, d WAY, k the CARRIAGE, p PACE.");
        isSo("w=-2");
        isSo("s=4");
        isSo("h=30");
        isSo("d=5");
        isSo("k=1");
        isSo("p=3");

        edge("s SHOE (as it is then), h HOUR (as the hour begins)");
        CoachmenFace f = new CoachmenFace();
        f.carriage(at(8, 8), 0);
        f.mend(0, 3, 1);
        tell(f, "s=0");
        due("SHOE still 1 in the first hour", f.later(0, 1, 1), 0);
        due("SHOE 0 in the second", f.later(0, 2, 1), 1);
        tell(f, "h=59");
        due("HOUR 58 in the 59th hour", f.later(0, 59, 1) & 3, 0);
        due("HOUR 59 in the 60th", f.later(0, 60, 1) & 3, 1);
        f.mend(0, 8, 99);
        tell(f, "h=99");
        due("HOUR stays 99", f.later(0, 3, 1), 3);
        tell(f, "h>99");
        due("and is never more", f.later(0, 7, 1), 0);
    }

    private static void lawOperands() {
        edge("O = a number (1 to 4 digits)");
        isSo("1");
        isSo("10=0010");
        isSo("100=0100");
        isSo("9999=9998+1");
        due("0000", gives("0000"), 0);

        edge("At most 6 of ( ! - ahead of an O are open at once.");
        isSo("((((((1))))))");
        isSo("!!!!!!1");
        isSo("------1");
        isSo("(!(!((1))))");
        isSo("!-(-!-5)+1");
        isSo("------1*------1*((((((1))))))*!!!!!!1");
        isSo("(((((-1+2)))))");
        isSo("(((((!0&1)))))");
        isSo("(((((1)+(0)))))");
    }

    private static void lawNumbers() {
        edge("Ints that wrap");
        isSo("8192*8192*32<0");
        isSo("8192*8192*32-1>0");
        isSo("-(8192*8192*32)<0");
        isSo("8192*8192*64=0");
        isSo("!(8192*8192*64)");
        isSo("9999*9999*9999=" + parts(9999 * 9999 * 9999));
        due("less", gives("8192*8192*32"), -1);

        edge("/ and % toward 0");
        isSo("-7/2=-3");
        isSo("7/-2=-3");
        isSo("-7/-2=3");
        isSo("-7%2=-1");
        isSo("7%-2=1");
        isSo("-7%-2=-1");
        isSo("1/2=0");
        isSo("-1/2=0");
        isSo("8192*8192*32/-1=8192*8192*32");
        isSo("8192*8192*32%-1=0");

        edge("by 0 they give 0");
        isSo("7/0=0");
        isSo("7%0=0");
        isSo("0/0=0");
        isSo("0%0=0");
        isSo("!(-7/(1-1))");
        isSo("7/0+1");
    }

    private static void lawSigns() {
        edge("| & < = > ! give 1, 0");
        String[] ones = {"5|0", "0|5", "5|5", "-1|0", "5&7", "-1&-1", "3<4", "4=4", "4>3", "!0", "-1<0", "0>-1"};
        for (String text : ones) {
            isSo("(" + text + ")=1");
        }
        String[] noughts = {"0|0", "0&5", "5&0", "0&0", "4<4", "5<4", "4=5", "4>4", "4>5", "!5", "!-1", "!1", "0<-1", "2&4&0"};
        for (String text : noughts) {
            isSo("(" + text + ")=0");
        }

        edge("all is worked out");
        isSo("1|1/0");
        due("0&1/0", gives("0&1/0"), 0);
        isSo("0?1/0;1");

        edge("E = A { | A }. A = B { & B }. B = S .. S = P { + P, - P }. P = O { * O, / O, % O }.");
        isSo("1|0&0");
        isSo("0&0|1");
        isSo("1<2&3>2");
        isSo("1+1=2");
        isSo("2+2*3=8");
        isSo("9-3-2=4");
        isSo("9-3+2=8");
        isSo("64/4/4=4");
        isSo("64/4*4=64");
        isSo("7*3%4=1");
        isSo("7%4*3=9");
        isSo("-2*3=0-6");
        isSo("!0+1=2");
        isSo("!1|1");
        isSo("-d+6");
        isSo("2-(1|1)");
        isSo("(1<2)<3");
        isSo("1<2|1<2|0");
        isSo("0|0|1");
        isSo("1&1&1");
    }

    private static void lawGives() {
        edge("held within -1 .. 1");
        due("9999", gives("9999"), 1);
        due("2", gives("2"), 1);
        due("1", gives("1"), 1);
        due("0", gives("0"), 0);
        due("-1", gives("-1"), -1);
        due("-2", gives("-2"), -1);
        due("-9999", gives("-9999"), -1);

        edge("1: the next WAY; behind 7: 0");
        CoachmenFace f = one(at(8, 8), 7, 1);
        tell(f, "1");
        due("behind 7", f.later(0, 1, 1), 0);
        f.mend(0, 1, 0);
        tell(f, "-1");
        due("ahead of 0", f.later(0, 1, 1), 7);

        edge("Without a text: 1, if SHOE is 0, else 0.");
        f = new CoachmenFace();
        f.carriage(9, 4);
        for (int shoe = 0; shoe <= 9; shoe++) {
            f.mend(0, 3, shoe);
            due("SHOE " + shoe, f.turn(0), shoe == 0 ? 1 : 0);
        }
        due("a text that is none leaves it so", tell(f, "1+"), -102);
        f.mend(0, 3, 0);
        due("still without a text", f.turn(0), 1);
    }

    /** A number of many digits, written by such of 4. */
    private static String parts(int v) {
        int high = v / 10000;
        int low = v % 10000;
        int top = high / 10000;
        int mid = high % 10000;
        return "(" + top + "*5000*2+" + (mid < 0 ? "-" + -mid : mid) + ")*5000*2+" + (low < 0 ? "-" + -low : low);
    }

    private static void lawLines() {
        edge("LINES, one or more, parted by ;");
        isSo("1");
        isSo("1;0");
        isSo("1;-1;-1;-1");
        due("the first counts", gives("0;1"), 0);

        edge("E ? E (what counts if the first is not 0)");
        isSo("1?1;-1");
        isSo("-1?1;-1");
        isSo("2?1;-1");
        isSo("0?-1;1");
        due("what counts is the second", gives("1?0;1"), 0);

        edge("The first LINE without a first E, or whose first E is not 0, counts");
        isSo("0?-1;0?-1;1;-1");
        isSo("0?-1;5?1;-1");
        isSo("0|1?1;-1");
        isSo("0?-1;0|0?-1;0|1");

        edge("none: 0.");
        due("one line", gives("0?1"), 0);
        due("three", gives("0?1;1-1?1;!1?1"), 0);
    }

    private static void fault(String text, int place) {
        due("law() of " + text, tell(new CoachmenFace(), text), -100 - place);
    }

    private static void lawFaults() {
        edge("FAULT: the place (from 0) of the first byte with which no TEXT goes on");
        fault(")", 0);
        fault("?", 0);
        fault(";", 0);
        fault("=1", 0);
        fault("+1", 0);
        fault("x", 0);
        fault("\u0000", 0);
        fault("1\u0000", 1);
        fault("1\u00ff", 1);
        fault("W", 0);
        fault("1 ", 1);
        fault("12345", 4);
        fault("00000", 4);
        fault("1+99999+x", 6);
        fault("w1", 1);
        fault("1w", 1);
        fault("ww", 1);
        fault("1(", 1);
        fault(")1", 0);
        fault("1)", 1);
        fault("(1))", 3);
        fault("()", 1);
        fault("(+1)", 1);
        fault("1!", 1);
        fault("1!=2", 1);
        fault("1<=2", 2);
        fault("1<2<3", 3);
        fault("1=2=3", 3);
        fault("1>2<3", 3);
        fault("1<2+3*4<5", 7);
        fault("(1<2<3", 4);
        fault("1?2?3", 3);
        fault("1?2;3?4?5", 7);
        fault("(1?2)", 2);
        fault("(1;2)", 2);
        fault("1;;2", 2);
        fault("1?;2", 2);
        fault("1??2", 2);
        fault("(((((((1)))))))", 6);
        fault("!!!!!!!1", 6);
        fault("-------1", 6);
        fault("(-!(-!(1", 6);
        fault("((((((-1))))))", 6);
        fault("1+((((((1+!1))))))", 10);
    }

    private static void lawTooEarly() {
        edge("the length, if it ends too early");
        fault("", 0);
        fault("(", 1);
        fault("-", 1);
        fault("!", 1);
        fault("1+", 2);
        fault("1;", 2);
        fault("1?", 2);
        fault("1<", 2);
        fault("(1", 2);
        fault("((1)", 4);
        fault("(1+2*", 5);
        StringBuilder s = new StringBuilder();
        for (int i = 0; i < 60; i++) {
            s.append("1|");
        }
        fault(s.toString(), 120);

        edge("THE TAPE is empty then.");
        CoachmenFace f = new CoachmenFace();
        f.carriage(0, 0);
        due("a text", tell(f, "1"), 1);
        due("empty behind it", f.count(2), 0);
        due("a fault", tell(f, "1+"), -102);
        due("empty behind a fault", f.count(2), 0);
        due("no text any more", f.law(), -100);
        due("the law before the faults stays", f.turn(0), 1);
    }

    private static void lawBehindFaults() {
        edge("a TEXT behind one that had a FAULT is read from its own beginning");
        CoachmenFace f = new CoachmenFace();
        f.carriage(0, 0);
        due("open brackets", tell(f, "((((((("), -106);
        due("six of them again", tell(f, "((((((1))))))"), 1);
        due("brackets that were not closed", tell(f, "(1"), -102);
        due("none is open now", tell(f, "1)"), -101);
        due("nor ahead of ;", tell(f, "1;1"), 1);
        due("asked", tell(f, "1?1?"), -103);
        due("not asked yet", tell(f, "1?1"), 1);
        due("too early", tell(f, "0-"), -102);
        due("an operand first", tell(f, "-1"), 1);
        due("nothing is left of it", f.turn(0), -1);
        due("signs that waited", tell(f, "1+2*3<"), -106);
        due("do not wait now", tell(f, "1<2"), 1);
        due("gives", f.turn(0), 1);
        due("a shorter law", tell(f, "0"), 1);
        due("is all of it", f.turn(0), 0);
    }

    private static void hours() {
        edge("where it would leave the land, it turns round (WAY 4 more, round) and goes on the other way");
        int[] cell = {at(8, 0), at(15, 8), at(15, 8), at(15, 8), at(8, 15), at(0, 8), at(0, 8), at(0, 8)};
        int[] then = {at(8, 1), at(14, 9), at(14, 8), at(14, 7), at(8, 14), at(1, 7), at(1, 8), at(1, 9)};
        for (int way = 0; way < 8; way++) {
            CoachmenFace f = one(cell[way], way, 1);
            due("way " + way, f.later(0, 1, 0), then[way]);
            due("way " + way + " then", f.later(0, 1, 1), (way + 4) % 8);
        }
        due("it goes back the way it came", one(at(14, 5), 3, 4).later(0, 1, 0), at(12, 3));

        edge("each step by itself turns round");
        CoachmenFace f = one(at(14, 8), 2, 4);
        due("one step there, three back", f.later(0, 1, 0), at(12, 8));
        due("facing back", f.later(0, 1, 1), 6);
        f = one(at(14, 0), 1, 2);
        due("(14, 0) up and right: down and left instead", f.later(0, 1, 0), at(12, 2));
        // to and fro between (14, 0) and (15, 1), each step but the first by turning round
        int[] then14 = {at(15, 1), at(14, 0), at(15, 1), at(14, 0)};
        int[] facing = {3, 7, 3, 7};
        for (int pace = 1; pace <= 4; pace++) {
            f = one(at(14, 0), 3, pace);
            due("step " + pace, f.later(0, 1, 0), then14[pace - 1]);
            due("step " + pace + ", facing", f.later(0, 1, 1), facing[pace - 1]);
        }

        edge("where it would leave the land that way, too, it stays for that step");
        for (int pace = 1; pace <= 4; pace++) {
            int[] corner = {at(15, 0), at(15, 0), at(0, 0), at(0, 0), at(0, 15), at(15, 15)};
            int[] way = {3, 7, 1, 5, 7, 1};
            for (int i = 0; i < corner.length; i++) {
                f = one(corner[i], way[i], pace);
                due("corner " + corner[i] + " pace " + pace, f.later(0, 1, 0), corner[i]);
                due("way " + way[i] + " pace " + pace, f.later(0, 1, 1), (way[i] + 4 * pace) % 8);
            }
        }
    }

    private static void hoursOn() {
        edge("each CARRIAGE turns by THE LAW, then goes PACE CELLS its WAY");
        CoachmenFace f = one(at(8, 8), 2, 3);
        tell(f, "1");
        due("turned ahead of all steps, once", f.later(0, 1, 0), at(11, 11));
        due("facing", f.later(0, 1, 1), 3);

        edge("THE LAW is asked once an hour");
        f = one(at(14, 8), 2, 4);
        tell(f, "d=6?1;0");
        due("not when it turns round", f.later(0, 1, 1), 6);
        due("the hour behind", f.later(0, 2, 1), 7);

        edge("SHOE is one less then (0: it stays 0).");
        f = one(at(8, 8), 2, 1);
        f.mend(0, 3, 2);
        int[] shoes = {2, 1, 0, 0, 0};
        for (int n = 0; n < 5; n++) {
            due("in thought, behind " + n, f.later(0, n, 2), shoes[n]);
        }
        for (int n = 1; n < 5; n++) {
            f.hour();
            due("in deed, behind " + n, f.of(0, 3), shoes[n]);
        }

        edge("HOUR goes on (99 stays).");
        f.mend(0, 8, 97);
        due(f.hour(), 98);
        due(f.hour(), 99);
        due(f.hour(), 99);
        due(f.of(0, 8), 99);
    }

    // ---- part 2

    /**
     * Carriage 0 stays in the corner (0, 0). Carriage 1 goes to and fro along row 10, turns aside up and
     * left, and is in the corner behind 60 hours, or 61 if late. Places: (15, 10), (0, 0). REACH 0.
     */
    private static CoachmenFace far(boolean late) {
        CoachmenFace f = new CoachmenFace();
        f.mend(0, 6, 0);
        tell(f, late ? "k=1&h=51" : "k=1&h=50");
        f.carriage(at(0, 0), 1);
        f.carriage(at(late ? 1 : 0, 10), late ? 6 : 2);
        f.place(at(15, 10));
        f.place(at(0, 0));
        return f;
    }

    private static void thoughts() {
        edge("IN THOUGHT, from now: behind n (0 .. 60) hours: CELL, WAY, SHOE of a CARRIAGE");
        CoachmenFace f = far(false);
        due("now: CELL", f.later(1, 0, 0), at(0, 10));
        due("now: WAY", f.later(1, 0, 1), 2);
        due("now: SHOE", f.later(1, 0, 2), 9);
        due("60: CELL", f.later(1, 60, 0), at(0, 0));
        due("60: WAY", f.later(1, 60, 1), 7);
        due("60: SHOE", f.later(1, 60, 2), 0);
        due("59: CELL", f.later(1, 59, 0), at(1, 1));
        due("none of it in deed", f.of(1, 0), at(0, 10));

        edge("how near it comes to a PLACE, now and behind each of n hours (the least APART)");
        due("now", f.nears(11, 0, 0), 10);
        due("behind each of 59", f.nears(11, 59, 0), 1);
        due("behind each of 60", f.nears(11, 60, 0), 0);
        due("now is the nearest", f.nears(1, 60, 0), 0);

        edge("behind how many hours first so near");
        due("now", f.nears(11, 0, 1), 0);
        due("the 59th", f.nears(11, 59, 1), 59);
        due("the 60th", f.nears(11, 60, 1), 60);
        due("always: now", f.nears(1, 60, 1), 0);
        due("the first of two", f.nears(10, 60, 1), 15);

        edge("which PLACES (bits) it is NEAR now or behind any of n hours");
        due("now", f.passes(0, 0, 0), 2);
        due("not behind 14", f.passes(1, 14, 0), 0);
        due("behind 15", f.passes(1, 15, 0), 1);
        due("not behind 59", f.passes(1, 59, 0), 1);
        due("behind 60", f.passes(1, 60, 0), 3);

        edge("WORTH of these together");
        f.mend(0, 5, 9);
        f.mend(1, 5, 0);
        due("none", f.passes(1, 14, 1), 0);
        due("one", f.passes(1, 15, 1), 9);
        due("9 and 0", f.passes(1, 60, 1), 9);
        CoachmenFace g = one(at(0, 0), 2, 1);
        for (int p = 0; p < 8; p++) {
            g.place(at(p, 1));
            g.mend(p, 5, 9);
        }
        due("all eight", g.passes(0, 60, 1), 72);
        due("all eight, bits", g.passes(0, 60, 0), 255);

        edge("the law is asked by WAY, odd and even, in all 60 hours");
        g = one(at(8, 8), 0, 1);
        tell(g, "d%2=0");
        due("even, then odd", g.later(0, 1, 1), 1);
        due("odd: straight on, till it turns round", g.later(0, 2, 1), 1);
        g = one(at(8, 8), 0, 1);
        tell(g, "h>52?(h%2)*2-1;0");
        // it may turn round at the edge, too, so by 4 more or not
        due("in the 54th hour and later, too", g.later(0, 54, 1) - g.later(0, 53, 1) & 3, 1);
        due("in the 55th", g.later(0, 55, 1) - g.later(0, 54, 1) & 3, 3);
        due("in the 60th", g.later(0, 60, 1) - g.later(0, 59, 1) & 3, 1);
    }

    private static void meetings() {
        edge("MEET: behind how many hours (0 .. 60) two CARRIAGES are first NEAR each other (NOT)");
        due("in the 60th", far(false).meet(1), 60);
        due("as well the other way about", far(false).meet(10), 60);
        due("in the 61st: never", far(true).meet(1), NOT);
        CoachmenFace f = new CoachmenFace();
        for (int k = 0; k < 6; k++) {
            f.carriage(at(8, 8), 0);
        }
        due("the last two, now", f.meet(45), 0);
        due("the last two, now, the other way about", f.meet(54), 0);
        f.mend(5, 0, at(8, 0));
        f.mend(5, 1, 4);
        due("8 apart, 2 less an hour", f.meet(54), 4);
        due("by 10 times the one", f.meet(5), 4);
        due("others", f.meet(34), 0);

        edge("how often they are so behind 0 to n hours");
        due("0 counts", f.often(34, 0), 1);
        due("60 counts", f.often(34, 60), 61);
        due("not yet", f.often(54, 3), 0);
        due("the fourth counts", f.often(54, 4), 1);
        due("the 59th", far(false).often(1, 59), 0);
        due("the 60th", far(false).often(10, 60), 1);
        due("of the last one, by 10 times it", f.often(50, 4), 1);

        edge("WHO: which CARRIAGES (bits) are NEAR a told CELL behind n hours");
        due("60", far(false).who(0, 60), 3);
        due("60, one late", far(true).who(0, 60), 1);
        due("cell 255, none", far(true).who(255, 0), 0);
        due("all six", f.who(at(8, 4), 4), 63);
        due("just then, not before", f.who(at(8, 4), 0), 0);
        due("without carriages", new CoachmenFace().who(0, 60), 0);
    }

    private static void soonest() {
        edge("SOONEST: .. behind how many hours (0 .. 60) first; NOT.");
        due("60", far(false).soonest(1, 0), 60);
        due("61 is too late", far(true).soonest(1, 0), NOT);
        due("61 is too late, by which", far(true).soonest(1, 1), NOT);
        CoachmenFace f = one(at(3, 3), 2, 1);
        f.place(at(3, 3));
        f.place(at(4, 3));
        due("0", f.soonest(1, 0), 0);
        due("0, by which", f.soonest(1, 1), 1);

        edge("gets into any CARRIAGE that is NEAR it (now or later)");
        f = one(at(0, 3), 2, 1);
        f.mend(0, 6, 0);
        f.place(at(5, 3));
        f.place(at(9, 3));
        due("later: behind 5, then 4 on", f.soonest(1, 0), 9);
        due("not before it came by: on the way back", f.soonest(10, 0), 25);

        edge("BY WHICH: CARRIAGES (bits) he can be in by then (in that hour, too).");
        f.carriage(at(9, 12), 0);
        due("one that is met in that hour", f.soonest(1, 1), 3);
        f.mend(1, 0, at(9, 13));
        due("one that would be met an hour later", f.soonest(1, 1), 1);

        edge("SOONEST: in one and the same hour he may get in, change as often as he likes, get down.");
        CoachmenFace g = new CoachmenFace();
        g.place(at(0, 5));
        g.place(at(7, 5));
        int[] x = {1, 6, 3, 4, 2, 5};
        for (int k = 0; k < 6; k++) {
            g.carriage(at(x[k], 5), 0);
        }
        due("five changes", g.soonest(1, 0), 0);
        due("five changes, by which", g.soonest(1, 1), 63);
        due("five changes back", g.soonest(10, 1), 63);

        edge("ft: 10 times the PLACE from, and that to");
        CoachmenFace h = one(at(1, 0), 2, 1);
        h.mend(0, 6, 0);
        for (int p = 0; p < 8; p++) {
            h.place(at(2 * p, 0));
        }
        due("from the last but one to the last", h.soonest(67, 0), 15 - 2);
        due("from the last to the last but one", h.soonest(76, 0), 17);
        due("from the first to the last: it comes there on the way back alone", h.soonest(7, 0), 29 + 14);
        due("two PLACES in one CELL are another", twoInOne().soonest(1, 0), 2);
        due("nobody comes", twoInOne().soonest(2, 0), NOT);
    }

    private static CoachmenFace twoInOne() {
        CoachmenFace f = one(at(0, 0), 2, 1);
        f.mend(0, 6, 0);
        f.place(at(2, 0));
        f.place(at(2, 0));
        f.place(at(2, 2));
        return f;
    }

    private static void buy() {
        edge("BUY: .. now or behind any of n (0 .. 30) hours");
        // at the right edge it turns up and left, and is in the corner (0, 0) behind 30 hours
        CoachmenFace f = one(at(0, 15), 2, 1);
        f.mend(0, 6, 0);
        tell(f, "h=15");
        f.place(at(0, 0));
        due("30", f.buy(1, 30, 0), 1);
        due("30, which: the first alone", f.buy(1, 30, 1), 1);
        due("29", f.buy(1, 29, 0), 0);
        due("29, which: none", f.buy(1, 29, 1), 0);
        f.mend(0, 4, at(0, 15));
        due("now", f.buy(1, 0, 0), 1);

        edge("at most k of them (k 1 .. 3)");
        CoachmenFace g = new CoachmenFace();
        g.mend(0, 6, 0);
        for (int k = 0; k < 6; k++) {
            g.carriage(at(2 * k, 2), 0);
        }
        due("without a place", g.buy(3, 0, 0), 0);
        for (int p = 0; p < 8; p++) {
            g.place(at(15 - p, 2));
        }
        // carriages 5, 4 at X 10, 8: places 5, 7
        due("one", g.buy(1, 0, 0), 1);
        due("two", g.buy(2, 0, 0), 2);
        due("three: no more are there", g.buy(3, 0, 0), 2);
        due("three: which", g.buy(3, 0, 1), (1 << 5) + (1 << 7));
        g.mend(7, 4, at(0, 2));
        g.mend(6, 4, at(2, 2));
        g.mend(4, 4, at(4, 2));
        due("three", g.buy(3, 0, 0), 3);
        due("of like ones least bits", g.buy(3, 0, 1), (1 << 4) + (1 << 5) + (1 << 6));
        due("two of them", g.buy(2, 0, 1), (1 << 4) + (1 << 5));
        due("one of them", g.buy(1, 0, 1), 1 << 4);

        edge("which PLACES (bits; of like ones fewest, then least bits)");
        CoachmenFace h = new CoachmenFace();
        h.carriage(at(2, 2), 0);
        h.carriage(at(4, 2), 0);
        h.place(at(2, 2));
        h.place(at(4, 2));
        h.place(at(3, 2));
        h.place(at(3, 2));
        due("fewest ahead of least bits", h.buy(3, 0, 1), 4);
        due("both", h.buy(3, 0, 0), 2);
        CoachmenFace none = new CoachmenFace();
        none.place(0);
        due("none: none bought", none.buy(3, 30, 1), 0);
    }

    // ---- part 3

    private static void dined() {
        edge("by twos behind how many hours (0 .. 60), and which PLACE a CARRIAGE was NEAR then");
        CoachmenFace f = far(false);
        fill(f, 0, 0, 60, 1);
        due("60", f.judge(0, 1), NOT);
        due("60, one late", judgeFar(true, 60), 0);
        due("61", judgeFar(false, 61), 0);
        due("-1", judgeFar(false, -1), 0);
        due("127", judgeFar(false, 127), 0);
        due("-128", judgeFar(false, -128), 0);
        fill(f, 0, 0, 0, 1);
        due("now", f.judge(0, 0), NOT);
        due("now, not", f.judge(0, 1), 0);
        fill(f, 0, 0, 60, 1, 15, 0, 45, 0);
        due("in any order", f.judge(0, 1), NOT);

        edge("JUDGED: the first two that is not so (none such, lacking, too); NOT.");
        fill(f, 0, 0, 15, 0, 16, 0, 17, 0);
        due("the first", f.judge(0, 1), 1);
        fill(f, 0, 0, 15, 0, 45, 0, 15, 2);
        due("no such place", f.judge(0, 1), 2);
        fill(f, 0, 0, 15, -1);
        due("a place below 0", f.judge(0, 1), 0);
        fill(f, 0, 0, 15, 0, 45);
        due("a place lacks", f.judge(0, 1), 1);
        fill(f, 0, 0, 15);
        due("it lacks in the first", f.judge(0, 1), 0);
        f.row(0, 0, 0);
        due("an empty row", f.judge(0, 1), NOT);

        edge("(20 twos at most); DINED: twos beyond the 20th do not matter.");
        f = far(false);
        f.row(0, 0, 60);
        for (int i = 0; i < 60; i += 2) {
            f.put(0, i, i < 40 ? 15 : 14);
        }
        due("what is beyond", f.judge(0, 1), NOT);
        f.put(0, 39, 1);
        due("the 20th", f.judge(0, 1), 19);
        f.row(0, 0, 41);
        due("a 21st that lacks", f.judge(0, 0), 0);
        for (int i = 1; i < 41; i += 2) {
            f.put(0, i, 1);
        }
        due("a 21st that lacks does not matter", f.judge(0, 0), NOT);
        f.row(0, 0, 39);
        for (int i = 1; i < 39; i += 2) {
            f.put(0, i, 1);
        }
        due("a 20th that lacks", f.judge(0, 0), 19);
    }

    private static void judgedNow() {
        edge("JUDGED by what is now");
        CoachmenFace f = one(at(8, 8), 2, 1);
        f.place(at(10, 8));
        f.mend(0, 6, 0);
        fill(f, 0, 0, 2, 0);
        due("there", f.judge(0, 0), NOT);
        tell(f, "w");
        due("by the other law, without wind", f.judge(0, 0), NOT);
        f.mend(0, 7, 1);
        due("by the wind", f.judge(0, 0), 0);
        due("and again", f.judge(0, 0), 0);
        f.mend(0, 7, 0);
        due("without it", f.judge(0, 0), NOT);
        tell(f, "s=0");
        f.mend(0, 3, 0);
        due("by the shoe", f.judge(0, 0), 0);
        f.shoe(0);
        due("by the shoe again", f.judge(0, 0), NOT);
    }

    private static int judgeFar(boolean late, int hours) {
        CoachmenFace f = far(late);
        fill(f, 0, 0, hours, 1);
        return f.judge(0, 1);
    }

    private static void dinedWaysFromPaces() {
        // in the corner: up, down, right, left, along the middle it is back behind 60 hours; across it stays
        CoachmenFace f = far(false);
        fill(f, 0, 0, 60, 1);
        edge("WAYS: by which WAYS (bits), all else as now, all is so.");
        due("60 hours: all", f.dined(0, 0, 0), 255);
        fill(f, 0, 0, 59, 1);
        due("59 hours: across alone", f.dined(0, 0, 0), 2 + 32);
        fill(f, 0, 0, 61, 1);
        due("none", f.dined(0, 0, 0), 0);
        f.row(0, 0, 0);
        due("an empty row: all", f.dined(0, 0, 0), 255);

        edge("PACES: by which PACES (bits 1 .. 4).");
        due("an empty row: all", f.dined(0, 0, 3), 30);
        fill(f, 0, 0, 60, 1);
        due("it stays by all", f.dined(0, 0, 3), 30);
        fill(f, 0, 0, 0);
        due("lacking: none", f.dined(0, 0, 3), 0);
        CoachmenFace g = one(at(1, 1), 2, 2);
        g.mend(0, 6, 0);
        g.place(at(5, 1));
        fill(g, 0, 0, 1, 0);
        due("4 alone", g.dined(0, 0, 3), 16);
        g.mend(0, 4, at(2, 1));
        due("1 alone", g.dined(0, 0, 3), 2);
        g.mend(0, 4, at(3, 1));
        due("2 alone, as it is", g.dined(0, 0, 3), 4);
        due("the pace is as it was", g.of(0, 2), 2);

        edge("all else as now");
        tell(g, "w");
        g.mend(0, 4, at(3, 1));
        due("straight on: WAYS", g.dined(0, 0, 0), 1 << 2);
        due("straight on: FROM", g.dined(0, 0, 2), at(1, 1));
        due("straight on: PACES", g.dined(0, 0, 3), 4);
        g.mend(0, 7, -1);
        due("turned by the wind: WAYS", g.dined(0, 0, 0), 1 << 3);
        due("turned by the wind: FROM, (1, 3), or (3, 1) by turning round", g.dined(0, 0, 1), 2);
        due("turned by the wind: the least", g.dined(0, 0, 2), at(3, 1));
        due("turned by the wind: PACES", g.dined(0, 0, 3), 0);
        g.mend(0, 7, 1);
        due("turned the other way: FROM", g.dined(0, 0, 2), NOT);
        due("turned the other way: WAYS", g.dined(0, 0, 0), 1 << 1);

        edge("FROM: in how many CELLS it could be now (all else as now); the least (NOT).");
        f.row(0, 0, 0);
        due("all", f.dined(0, 0, 1), 256);
        due("all: the least", f.dined(0, 0, 2), 0);
        fill(f, 0, 0, 0, 1);
        due("one, reach 0", f.dined(0, 0, 1), 1);
        due("that one", f.dined(0, 0, 2), 0);
        fill(f, 0, 0, 0, 0);
        due("one", f.dined(0, 0, 1), 1);
        due("that one: (15, 10)", f.dined(0, 0, 2), at(15, 10));
        f.mend(0, 4, 255);
        due("the last cell", f.dined(0, 0, 2), 255);
        due("the last cell: one", f.dined(0, 0, 1), 1);
        f.mend(0, 6, 5);
        due("reach 5, in the corner", f.dined(0, 0, 1), 36);
        due("reach 5, the least", f.dined(0, 0, 2), at(10, 10));
        fill(f, 0, 0, 0, 0, 0);
        due("lacking: none", f.dined(0, 0, 1), 0);
        due("lacking: NOT", f.dined(0, 0, 2), NOT);
        due("the cell is as it was", f.of(0, 0), at(0, 0));
    }

    private static void reins() {
        edge("REINS: the fewest reins .. behind t (0 .. 12) hours just then: how many");
        CoachmenFace f = one(at(0, 5), 2, 1);
        f.mend(0, 6, 0);
        f.place(at(12, 5));
        f.place(at(0, 5));
        f.place(at(12, 4));
        due("12, by none", f.reins(0, 12, -1), 0);
        due("0, there", f.reins(1, 0, -1), 0);
        due("0, not there", f.reins(0, 0, -1), NOT);
        due("11: not yet", f.reins(0, 11, -1), NOT);
        due("just then, not before", f.reins(1, 1, -1), NOT);
        due("in the twelfth hour", f.reins(2, 12, -1), 1);

        edge("the k-th hour's (0 less, 1 none, 2 more)");
        for (int k = 0; k < 12; k++) {
            due("hour " + k, f.reins(2, 12, k), k == 11 ? 0 : 1);
        }
        f.mend(2, 4, at(12, 6));
        due("more", f.reins(2, 12, 11), 2);

        edge("NOT: there are not as many hours");
        due("12 of 12", f.reins(2, 12, 12), NOT);
        due("11 of 12", f.reins(2, 12, 11), 2);
        due("0 of 0", f.reins(1, 0, 0), NOT);
        due("far more", f.reins(2, 12, MAX), NOT);

        edge("NOT: by none.");
        due("how many", f.reins(0, 1, -1), NOT);
        due("the first hour's", f.reins(0, 1, 0), NOT);
    }

    private static void reinsAlike() {
        edge("of like ones none first, then less, hour by hour");
        // from (8, 8) facing right, pace 1, behind 2 hours at (9, 8 -+ 2) by less, less or more, more
        CoachmenFace g = one(at(8, 8), 2, 1);
        g.place(at(14, 8));
        g.mend(0, 6, 5);
        due("none", g.reins(0, 2, -1), 0);
        g.mend(0, 6, 3);
        // X 11 behind 3 hours by none alone
        due("none all the way", g.reins(0, 3, 2), 1);
        // two cells: right and one up or down; X 10, Y 7 (less in the second) or 6 .. by one in the first
        CoachmenFace h = one(at(8, 8), 2, 1);
        h.mend(0, 6, 1);
        h.place(at(10, 6));
        due("one is enough", h.reins(0, 2, -1), 1);
        due("none in the first hour", h.reins(0, 2, 0), 1);
        due("less in the second", h.reins(0, 2, 1), 0);
        // as far above as below: turned less or more, the way round alike
        CoachmenFace i = one(at(8, 8), 2, 1);
        i.mend(0, 6, 3);
        i.place(at(6, 8));
        due("to X 9 behind 2 hours: two reins", i.reins(0, 2, -1), 2);
        due("less ahead of more", i.reins(0, 2, 0), 0);
        due("less ahead of more, again", i.reins(0, 2, 1), 0);
    }

    private static void reinsByLaw() {
        edge("one more or one less is added to what THE LAW gives");
        CoachmenFace j = one(at(8, 8), 2, 1);
        tell(j, "9");
        j.mend(0, 6, 0);
        j.place(at(8, 9));
        due("two more in one hour, by one rein", j.reins(0, 1, -1), 1);
        due("that one is more", j.reins(0, 1, 0), 2);
        j.mend(0, 4, at(9, 8));
        due("less: the law's is undone", j.reins(0, 1, 0), 0);

        edge("for the WAY as it was, as the hour begins");
        CoachmenFace k = one(at(8, 8), 1, 1);
        tell(k, "d=1?-1;0");
        k.mend(0, 6, 0);
        k.place(at(9, 7));
        k.place(at(9, 8));
        due("the law's less, and one more: way 1", k.reins(0, 1, -1), 1);
        due("that one is more", k.reins(0, 1, 0), 2);
        due("not asked by the way as reined: way 2", k.reins(1, 1, -1), NOT);
        // less, by the law, to (8, 7); more (way 1) to (9, 6); less again, by the law, and more: (10, 5)
        k.place(at(10, 5));
        due("asked by the way as reined the hour before", k.reins(2, 3, -1), 2);
        due("none first", k.reins(2, 3, 0), 1);
    }

    private static void reinsInCorners() {
        edge("stands in the first and the last CELL");
        CoachmenFace m = one(at(15, 15), 7, 1);
        m.mend(0, 6, 0);
        m.place(at(15, 15));
        m.place(at(0, 0));
        due("there and back", m.reins(0, 0, -1), 0);
        m.mend(0, 0, at(0, 0));
        m.mend(0, 1, 0);
        due("from the first", m.reins(1, 0, -1), 0);
        due("across the corner it stays there", m.reins(1, 1, -1), 1);
        due("so turned one more", m.reins(1, 1, 0), 2);
        m.mend(1, 4, at(0, 1));
        due("and on from the first", m.reins(1, 1, -1), 0);
        m.mend(1, 4, at(0, 0));
        m.mend(0, 0, at(14, 14));
        m.mend(0, 1, 3);
        due("into the last", m.reins(0, 1, -1), 0);
        m.mend(0, 0, at(15, 14));
        m.mend(0, 1, 4);
        due("into the last, and on from it", m.reins(0, 1, 0), 1);
        m.mend(0, 2, 2);
        due("over it and back", m.reins(0, 1, -1), NOT);
    }

    private static void fraction(String what, CoachmenFace f, int kp, int t, int x, long above, long below) {
        due(what + ", above", f.chance(kp, t, x, 0), above);
        due(what + ", below", f.chance(kp, t, x, 1), below);
    }

    private static void meanIs(String what, CoachmenFace f, int kp, int t, int x, long above, long below) {
        due(what + ", above", f.mean(kp, t, x, 0), above);
        due(what + ", below", f.mean(kp, t, x, 1), below);
    }

    private static void chances() {
        edge("CHANCE: in each hour, with odds x of twelve");
        // always turned it is back behind 8 hours; or by a turn less, none in the first
        CoachmenFace f = one(at(8, 8), 2, 1);
        f.mend(0, 6, 0);
        f.place(at(8, 8));
        f.place(at(14, 8));
        fraction("x 12, t 8", f, 0, 8, 12, 1, 1);
        fraction("x 0, t 8", f, 1, 8, 0, 1, 1);
        fraction("x 0, t 8, elsewhere", f, 0, 8, 0, 0, 1);
        fraction("x 1, t 8: two ways round of a length", f, 0, 8, 1, 1, 35831808);
        fraction("x 6, t 1: never", f, 0, 1, 6, 0, 1);
        fraction("t 0: there", f, 0, 0, 6, 1, 1);
        fraction("t 0: not there", f, 1, 0, 6, 0, 1);
        f.place(at(9, 8));
        fraction("x 5, t 1: straight on, 7 of 12", f, 2, 1, 5, 7, 12);
        fraction("x 6, t 1: in lowest terms", f, 2, 1, 6, 1, 2);
        fraction("x 4, t 1: in lowest terms", f, 2, 1, 4, 2, 3);

        edge("a CARRIAGE turns one more beyond THE LAW");
        tell(f, "9");
        f.mend(2, 4, at(8, 9));
        fraction("two in one hour", f, 2, 1, 5, 5, 12);
        tell(f, "0");

        edge("All fractions are in lowest terms (0 by 1, where what is above the line is 0).");
        fraction("chance of none", f, 0, 3, 7, 0, 1);
        f.mend(2, 4, at(8, 8));
        meanIs("mean 0", f, 2, 0, 7, 0, 1);

        edge("MEAN of how far APART it is then: a fraction.");
        meanIs("x 12, t 8: back", f, 0, 8, 12, 0, 1);
        meanIs("x 0, t 8: (14, 8)", f, 0, 8, 0, 6, 1);
        meanIs("t 0", f, 1, 0, 3, 6, 1);
        // (8, 7): 1 apart, or, turned, (7, 7): 2 apart from (9, 7)
        f.mend(0, 1, 7);
        f.mend(0, 0, at(9, 8));
        f.mend(2, 4, at(10, 7));
        meanIs("2 by 7 of 12, 1 by 5 of 12", f, 2, 1, 5, 19, 12);
        meanIs("2 by 1 of 2, 1 by 1 of 2", f, 2, 1, 6, 3, 2);
    }

    private static void allPairs() {
        edge("kp: 10 times the CARRIAGE, and the PLACE");
        CoachmenFace g = new CoachmenFace();
        for (int k = 0; k < 6; k++) {
            g.carriage(at(2 * k, 0), 2);
        }
        for (int p = 0; p < 8; p++) {
            g.place(at(15, p));
        }
        tell(g, "0");
        g.mend(5, 2, 3);
        g.mend(0, 6, 0);
        for (int k = 0; k < 6; k++) {
            for (int p = 0; p < 8; p++) {
                int pace = k == 5 ? 3 : 1;
                int far = Math.max(15 - 2 * k - pace, p);
                meanIs("mean " + k + " " + p, g, 10 * k + p, 1, 0, far, 1);
                due("nears " + k + " " + p, g.nears(10 * k + p, 1, 0), far);
            }
        }
        g.mend(3, 0, at(15, 7));
        fraction("chance of the last place", g, 37, 0, 5, 1, 1);
        fraction("of another", g, 36, 0, 5, 0, 1);
        // each place where one carriage alone is behind an hour: the others are never there by one hour
        for (int k = 0; k < 6; k++) {
            int p = 7 - k;
            g.mend(k, 0, at(1, 2 * k));
            g.mend(k, 2, 1);
            g.mend(p, 4, at(2, 2 * k));
        }
        for (int k = 0; k < 6; k++) {
            for (int p = 2; p < 8; p++) {
                boolean there = p == 7 - k;
                due("reins " + k + " " + p, g.reins(10 * k + p, 1, -1), there ? 0 : NOT);
                due("byTurns " + k + " " + p, g.byTurns(10 * k + p, 1, 0) == 0 ? 1 : 0, there ? 1 : 0);
                due("chance " + k + " " + p, g.chance(10 * k + p, 1, 0, 0), there ? 1 : 0);
                due("nears " + k + " " + p, g.nears(10 * k + p, 1, 1) == 1 && g.nears(10 * k + p, 1, 0) == 0 ? 1 : 0, there ? 1 : 0);
            }
        }
    }

    private static void byTurns() {
        edge("BY TURNS: .. n hours (1 .. 6), she first");
        CoachmenFace f = one(at(8, 8), 0, 1);
        f.place(at(8, 4));
        due("one: hers alone", f.byTurns(0, 1, 0), 3);
        due("two: his is the last", f.byTurns(0, 2, 0), 2);
        due("three: hers is the last", f.byTurns(0, 3, 0), 1);
        CoachmenFace g = new CoachmenFace();
        g.carriage(17, 2);
        g.carriage(100, 5);
        g.carriage(255, 7);
        g.mend(2, 2, 2);
        g.place(25);
        g.place(64);
        g.place(200);
        due("six", g.byTurns(22, 6, 0), 5);
        due("six: what she does first", g.byTurns(22, 6, 1), 1);

        edge("if both do their best");
        // cell, way, hours, how far from (8, 8); each would be another, were one of the three turns not tried
        int[][] ends = {{1, 0, 2, 7}, {1, 1, 2, 8}, {2, 0, 2, 7}, {0, 0, 3, 6}, {at(13, 2), 1, 3, 6}, {at(2, 13), 5, 3, 6}};
        for (int[] end : ends) {
            CoachmenFace q = one(end[0], end[1], 1);
            q.place(at(8, 8));
            due("from " + end[0] + " facing " + end[1], q.byTurns(0, end[2], 0), end[3]);
        }
        CoachmenFace r = one(at(12, 8), 2, 2);
        r.place(at(14, 8));
        due("at the edge he can't but come back to the place", r.byTurns(0, 2, 0), 0);
        due("she goes there straight on", r.byTurns(0, 2, 1), 1);

        edge("each in his hour turns it one less, none or one more beyond THE LAW");
        CoachmenFace h = one(at(8, 8), 0, 4);
        tell(h, "1");
        h.place(at(15, 8));
        due("two more in one hour", h.byTurns(0, 1, 0), 3);
        due("that is one more", h.byTurns(0, 1, 1), 2);
        h.mend(0, 4, at(8, 0));
        due("none in one hour", h.byTurns(0, 1, 0), 4);
        due("less, or none, as near: none first", h.byTurns(0, 1, 1), 1);
        tell(h, "h=0?1;-1");
        h.mend(0, 4, at(15, 0));
        due("the law is asked by the hour: up and right by none", h.byTurns(0, 1, 1), 1);
        h.mend(0, 8, 1);
        due("and an hour later: up by one more", h.byTurns(0, 1, 1), 2);

        edge("of like ones none first, then less");
        CoachmenFace i = one(at(8, 8), 0, 1);
        i.place(at(8, 15));
        due("(8, 7), (7, 7), (9, 7), all 8 apart: none", i.byTurns(0, 1, 1), 1);
        i.mend(0, 4, at(0, 8));
        due("less is the best", i.byTurns(0, 1, 1), 0);
        i.mend(0, 4, at(15, 8));
        due("more is the best", i.byTurns(0, 1, 1), 2);
        // none: (0, 6), 8 apart; less leaves, so round: (2, 10); more: (2, 6): both 6 apart
        CoachmenFace j = one(at(0, 8), 0, 2);
        j.place(at(8, 8));
        due("less and more alike, none worse", j.byTurns(0, 1, 0), 6);
        due("less ahead of more", j.byTurns(0, 1, 1), 0);
        // each there and back over the edge
        CoachmenFace k = one(at(14, 8), 2, 2);
        k.place(at(14, 8));
        due("all back", k.byTurns(0, 1, 0), 0);
        due("all back: none", k.byTurns(0, 1, 1), 1);
    }

    // ---- part 4

    private static void drawn() {
        edge("DRAWN: n years (1 .. 30) of m hours (1 .. 40) from now by a SEED");
        int[] seeds = {0, 1, -1, 7, MAX, MIN, 1103515245};
        int[] nms = {101, 140, 201, 3001, 3040, 1520};
        CoachmenFace f = new CoachmenFace();
        Plain p = new Plain();
        for (int k = 0; k < 6; k++) {
            f.carriage(43 * k, k);
            p.carriage(43 * k, k);
            f.mend(k, 2, 1 + k % 4);
            p.mend(k, 2, 1 + k % 4);
        }
        for (int q = 0; q < 8; q++) {
            f.place(36 * q);
            p.place(36 * q);
        }
        for (int reach = 0; reach <= 5; reach += 5) {
            f.mend(0, 6, reach);
            p.mend(0, 6, reach);
            for (int seed : seeds) {
                for (int nm : nms) {
                    due(seed + ", " + nm + ", all", f.drawn(seed, nm, -1), p.drawn(seed, nm, -1));
                    due(seed + ", " + nm + ", the first", f.drawn(seed, nm, 0), p.drawn(seed, nm, 0));
                    due(seed + ", " + nm + ", the last", f.drawn(seed, nm, 7), p.drawn(seed, nm, 7));
                }
            }
        }

        edge("counted one by one, all years together");
        CoachmenFace g = new CoachmenFace();
        g.mend(0, 6, 5);
        for (int k = 0; k < 6; k++) {
            g.carriage(at(8, 8), k);
        }
        g.place(at(8, 8));
        g.place(at(8, 9));
        due("six carriages, 30 years", g.drawn(5, 3001, 0), 180);
        due("six carriages, 2 years", g.drawn(5, 201, 1), 12);

        edge("how many of PLACES have one NEAR at the ends, all years together");
        due("two places, 30 years", g.drawn(5, 3001, -1), 60);
        due("two places, 1 year", g.drawn(5, 104, -1), 2);

        edge("ahead of each CARRIAGE in each hour, by numbers: it turns by (z >>> 8) % 3 less 1");
        int seed = 4242;
        int z = seed;
        int[] y = {7, 8, 9};
        for (int k = 0; k < 6; k++) {
            CoachmenFace h = new CoachmenFace();
            h.mend(0, 6, 0);
            tell(h, "0");
            for (int j = 0; j <= k; j++) {
                h.carriage(j == k ? at(8, 8) : 0, 2);
            }
            z = z * 1103515245 + 12345;
            int end = at(9, y[(z >>> 8) % 3]);
            h.place(end);
            due("the draw of carriage " + k, h.drawn(seed, 101, 0), 1);
        }
    }

    private static void inDeed() {
        edge("a CARRIAGE is REINED (WAY by one, less or more)");
        CoachmenFace f = new CoachmenFace();
        f.carriage(at(8, 8), 0);
        f.carriage(at(8, 8), 7);
        due("less, ahead of 0", f.rein(0, 0), 7);
        due("more, behind 7", f.rein(1, 1), 0);
        due("of it", f.of(1, 1), 0);
        due("not of the other", f.of(0, 1), 7);

        edge("SHOD (SHOE 9): SHOE till then");
        f.mend(1, 3, 0);
        due("0 till then", f.shoe(1), 0);
        due("9 then", f.of(1, 3), 9);
        due("9 till then", f.shoe(1), 9);

        edge("one buys a PLACE (WORTH 9): WORTH till then");
        for (int p = 0; p < 8; p++) {
            f.place(p);
        }
        f.mend(7, 5, 0);
        due("0 till then", f.buys(7), 0);
        due("9 then", f.of(7, 5), 9);
        due("the others as they were", f.of(6, 5), 1);
        due("no one buys the ninth", f.buys(8), BAD);
    }

    private static void led() {
        edge("LED: hours, CELLS gone (steps in which it stays are none), reins, shoes");
        CoachmenFace g = one(at(14, 8), 2, 4);
        g.carriage(at(0, 0), 1);
        g.mend(1, 2, 3);
        g.rein(0, 0);
        g.rein(0, 1);
        g.shoe(1);
        g.shoe(1);
        g.shoe(0);
        due("reins", g.led(2), 2);
        due("shoes", g.led(3), 3);
        due("no hours by these", g.led(0), 0);
        due("CELLS at first", g.led(1), 0);
        g.hour();
        due("CELLS: turned round, all four", g.led(1), 4);
        g.hour();
        due("CELLS behind the second hour", g.led(1), 8);
        g.rein(1, 1);
        g.mend(0, 2, 1);
        g.hour();
        due("CELLS of both", g.led(1), 12);
        due("hours", g.led(0), 3);
        g.mend(0, 8, 99);
        g.hour();
        due("hours go on beyond 99", g.led(0), 4);

        edge("LED: NEAR counts all pairs behind each hour.");
        CoachmenFace h = new CoachmenFace();
        for (int k = 0; k < 6; k++) {
            h.carriage(at(0, 0), 1);
        }
        for (int p = 0; p < 8; p++) {
            h.place(at(p / 4, p / 4));
        }
        due("none ahead of the first hour", h.led(4), 0);
        h.hour();
        due("all 48 pairs", h.led(4), 48);
        h.hour();
        due("again", h.led(4), 96);
        h.mend(0, 6, 0);
        h.hour();
        due("by REACH as it is", h.led(4), 96 + 24);
    }

    private static void changes() {
        edge("CHANGES (all numbers of mend(); telling the same number is none)");
        CoachmenFace f = new CoachmenFace();
        for (int k = 0; k < 6; k++) {
            f.carriage(10, 1);
        }
        for (int p = 0; p < 8; p++) {
            f.place(20);
        }
        due("what came is none", f.count(3), 0);
        int[] at = {5, 5, 5, 5, 7, 7, 0, 0, 0};
        int[] was = {10, 1, 1, 9, 20, 1, 1, 0, 0};
        for (int what = 0; what <= 8; what++) {
            f.mend(at[what], what, 3);
            due("one more", f.count(3), what + 1);
            f.mend(at[what], what, 3);
            due("the same is none", f.count(3), what + 1);
        }

        edge("can be UNDONE, the latest first");
        for (int what = 8; what >= 0; what--) {
            due("how many may still be", f.undo(), what);
            due("what " + what, f.of(at[what], what), was[what]);
            due("not the first one's", f.of(0, what), was[what]);
            if (what > 0) {
                due("the one before it still", f.of(at[what - 1], what - 1), 3);
            }
        }
        due("none", f.undo(), STATE);
        changesAgain(f, at, was);
    }

    /** All changes were undone. */
    private static void changesAgain(CoachmenFace f, int[] at, int[] was) {
        edge("and DONE AGAIN (as long as no other came behind)");
        for (int what = 0; what <= 8; what++) {
            due("how many may still be", f.redo(), 8 - what);
            due("what " + what, f.of(at[what], what), 3);
            due("not the first one's", f.of(0, what), what < 6 ? was[what] : 3);
        }
        due("none", f.redo(), STATE);
        f.undo();
        f.undo();
        f.mend(0, 0, 10);
        due("the same number is none behind", f.redo(), 1);
        f.mend(0, 0, 11);
        due("another came behind", f.redo(), STATE);
        due("it is kept itself", f.undo(), 8);
        due("and may be done again", f.redo(), 0);
        due("its number", f.of(0, 0), 11);
    }

    private static void changesKept() {
        edge("40 at most are kept");
        CoachmenFace g = new CoachmenFace();
        for (int i = 1; i <= 45; i++) {
            g.mend(0, 8, i);
            due("kept", g.count(3), Math.min(40, i));
        }
        for (int i = 39; i >= 0; i--) {
            due("undone", g.undo(), i);
        }
        due("none", g.undo(), STATE);
        due("as the fifth left it", g.of(0, 8), 5);
        for (int i = 39; i >= 0; i--) {
            due("done again", g.redo(), i);
        }
        due("none again", g.redo(), STATE);
        due("as the last left it", g.of(0, 8), 45);
        g.mend(0, 8, 46);
        due("still 40", g.count(3), 40);
        g.undo();
        due("the last but one", g.of(0, 8), 45);

        edge("deeds are none (CELL, WAY, SHOE, WORTH, HOUR by them, too)");
        CoachmenFace h = one(at(8, 8), 2, 1);
        h.place(at(9, 9));
        int kept = h.count(3);
        h.hour();
        h.rein(0, 1);
        h.shoe(0);
        h.buys(0);
        h.image();
        h.hour();
        h.back();
        due("no change more", h.count(3), kept);
        due("nothing to be undone", h.undo(), STATE);
        h.mend(0, 0, at(1, 1));
        h.undo();
        h.hour();
        h.rein(0, 1);
        h.shoe(0);
        h.buys(0);
        h.back();
        due("deeds do not come behind", h.redo(), 0);
    }

    private static void images() {
        edge("It is laid back (CARRIAGES that came since as they are): hours. STATE: there is none.");
        CoachmenFace f = one(at(8, 8), 2, 1);
        f.carriage(at(3, 3), 4);
        f.mend(1, 3, 5);
        f.place(at(8, 8));
        due("there is none", f.back(), STATE);
        f.hour();
        due("kept", f.image(), 1);
        f.hour();
        f.hour();
        f.carriage(at(6, 6), 6);
        f.hour();
        f.mend(2, 3, 2);
        due("laid back", f.back(), 1);
        int[] first = {at(9, 8), 2, 1, 8};
        int[] second = {at(3, 4), 4, 1, 4};
        int[] since = {at(5, 6), 6, 1, 2};
        for (int what = 0; what < 4; what++) {
            due("the first, what " + what, f.of(0, what), first[what]);
            due("the second, what " + what, f.of(1, what), second[what]);
            due("what came since, what " + what, f.of(2, what), since[what]);
        }
        due("still three", f.count(0), 3);
        due("HOUR", f.of(0, 8), 1);
        due("hours led", f.led(0), 1);
        due("CELLS led", f.led(1), 2);
        due("NEAR led", f.led(4), 1);
        f.hour();
        due("once more", f.back(), 1);
        due("once more: SHOE", f.of(0, 3), 8);
        f.hour();
        due("a second image", f.image(), 2);
        f.hour();
        due("the second is laid back", f.back(), 2);
        due("the second: CELL", f.of(0, 0), at(10, 8));
        due("the second: what came before it", f.of(2, 0), at(3, 6));
        CoachmenFace g = new CoachmenFace();
        due("an image without carriages", g.image(), 0);
        g.carriage(5, 5);
        g.hour();
        due("is one", g.back(), 0);
        due("the carriage as it is", g.of(0, 3), 8);
        due("HOUR as it was", g.of(0, 8), 0);
    }

    // ---- part 5

    private static void bodies() {
        edge("BODIES 0 .. 49 are kept by call, of KINDS");
        CoachmenFace f = new CoachmenFace();
        for (int n = 0; n < 50; n++) {
            due("number", f.body(n % 8), n);
        }
        due("a 51st", f.body(0), FULL);

        edge("ACTS with x (an int that wraps) .. n its number");
        due("the last: faces", f.act(49, 0, 10), 10 + 49 + 3);
        due("wraps", f.act(48, 1, MAX), (MAX + 48) * 2);
        due("wraps down", f.act(48, 0, MIN), MIN + 48);
        due("wraps in FARM", f.act(3, 2, MIN), (MIN ^ 3) * 3);
        due("wraps in BUDD", f.act(2, 1, MAX), -((MAX + 2) * 2));
        due("a 50th is none", f.act(50, 0, 1), 0);

        edge("0, and no TRACE then: no such BODY, ACT.");
        f.act(0, 3, 1);
        due("a trace", f.trace(0), 2);
        due("no such ACT", f.act(0, 4, 1), 0);
        due("no trace", f.trace(0), BAD);
        due("none ran", f.count(5), 0);
        f.act(0, 3, 1);
        due("no such BODY", f.act(-1, 3, 1), 0);
        due("no trace of that", f.trace(0), BAD);
        f.act(0, 3, 1);
        due("an ACT below 0", f.act(0, -1, 1), 0);
        due("none ran of that", f.count(5), 0);

        edge("THE TRACE: numbers of the bodies that ran in the latest act(), as they began");
        f.act(5, 3, 1);
        int[] ran = {61, 2, 41, 30, 10, 1, 60, 40, 11, 1};
        for (int i = 0; i < ran.length; i++) {
            due("at " + i, f.trace(i), ran[i]);
        }
        due("behind the last", f.trace(10), BAD);
        f.act(0, 0, 1);
        due("the latest alone", f.trace(1), BAD);
        due("the latest alone: how many", f.count(5), 1);
        f.act(7, 1, 1);
        int[] rein = {80, 10, 81, 70, 1, 11};
        for (int i = 0; i < rein.length; i++) {
            due("of a REIN at " + i, f.trace(i), rein[i]);
        }
    }

    private static void traces() {
        edge("the first 24 are kept.");
        CoachmenFace f = new CoachmenFace();
        int most = 0;
        for (int kind = 0; kind < 8; kind++) {
            f.body(kind);
            for (int act = 0; act < 4; act++) {
                f.act(kind, act, 1);
                int ran = f.count(5);
                most = Math.max(most, ran);
                due("the last that ran", f.trace(ran - 1) > 0 ? 1 : 0, 1);
                due("one more", f.trace(ran), BAD);
            }
        }
        due("no act comes to more than these, so all are kept", most, 10);
        due("a 24th", f.trace(23), BAD);
        due("a 25th", f.trace(24), BAD);
    }

    private static void calls() {
        edge("An object is used for at most 512 calls after it has been made");
        CoachmenFace f = new CoachmenFace();
        for (int hour = 1; hour <= 511; hour++) {
            due("call " + hour, f.hour(), Math.min(99, hour));
        }
        due("call 512", f.led(0), 511);
    }

    private static void shelves() {
        edge("SHELVES 0 .. 5 each hold nothing (at first), a BODY, or a ROW");
        CoachmenFace f = new CoachmenFace();
        f.body(6);
        for (int shelf = 0; shelf <= 5; shelf++) {
            due("nothing at first", f.put(shelf, 0, 1), -11);
            due("a BODY", f.keep(shelf, 0), 1);
            due("it is there", f.taken(shelf, 6), 6);
            due("a ROW", f.row(shelf, 3, 60), 1);
            due("in its place", f.taken(shelf, 6), -12);
            due("its last element", f.put(shelf, 59, 7), 1);
            due("holds", f.element(shelf, 59), 7);
            due("none behind the last", f.put(shelf, 60, 7), -13);
            due("nothing again", f.keep(shelf, -1), 1);
            due("nothing there", f.element(shelf, 59), LMIN);
            due("nothing to be taken", f.taken(shelf, 6), -11);
        }

        edge("of 0 .. 60 elements, 0 at first (false)");
        for (int sort = 0; sort <= 4; sort++) {
            due("60", f.row(0, sort, 60), 1);
            for (int i = 0; i < 60; i++) {
                due("0 at first", f.element(0, i), 0);
            }
            f.put(0, 0, 1);
            f.put(0, 59, 1);
            due("0 of them", f.row(0, sort, 0), 1);
            due("no place in it", f.put(0, 0, 1), -13);
            due("none to be had", f.element(0, 0), LMIN);
            f.row(0, sort, 60);
            due("anew: the first", f.element(0, 0), 0);
            due("anew: the last", f.element(0, 59), 0);
            due("61", f.row(0, sort, 61), BAD);
            due("-1", f.row(0, sort, -1), -14);
            due("still there", f.element(0, 59), 0);
            f = new CoachmenFace();
            f.body(6);
        }
        lowestBits();
        moved();
    }

    private static void lowestBits() {
        edge("what is put in keeps its lowest bits");
        CoachmenFace f = new CoachmenFace();
        long[][] in = {{127, 128, 255, 256, -128, -129, LMIN}, {32767, 32768, 65535, 65536, -32768, -32769, LMIN},
            {MAX, 2147483648L, 4294967295L, 4294967296L, MIN, -2147483649L, LMIN},
            {MAX, 2147483648L, 4294967295L, Long.MAX_VALUE, MIN, LMIN + 1, LMIN}};
        long[][] kept = {{127, -128, -1, 0, -128, 127, 0}, {32767, -32768, -1, 0, -32768, 32767, 0},
            {MAX, MIN, -1, 0, MIN, MAX, 0},
            {MAX, 2147483648L, 4294967295L, Long.MAX_VALUE, MIN, LMIN + 1, LMIN}};
        for (int sort = 0; sort <= 3; sort++) {
            f.row(sort, sort, 2);
            for (int i = 0; i < in[sort].length; i++) {
                due("put", f.put(sort, 1, in[sort][i]), 1);
                due("sort " + sort + ", " + in[sort][i], f.element(sort, 1), kept[sort][i]);
            }
            due("the other element", f.element(sort, 0), 0);
        }

        edge("(a boolean: whether it is not 0; 1 or 0)");
        f.row(4, 4, 1);
        for (long v : new long[] {1, 2, -1, 256, 65536, 4294967296L, LMIN, Long.MAX_VALUE}) {
            f.put(4, 0, v);
            due("of " + v, f.element(4, 0), 1);
        }
        f.put(4, 0, 0);
        due("of 0", f.element(4, 0), 0);
    }

    private static void moved() {
        edge("n elements of a ROW from i on come to another one (or the same) from j on, as they all were before: n.");
        CoachmenFace f = new CoachmenFace();
        fill(f, 0, 2, 1, 2, 3, 4, 5);
        due("onward, over itself", f.shift(0, 0, 0, 2, 3), 3);
        rowIs(f, 0, 1, 2, 1, 2, 3);
        fill(f, 0, 2, 1, 2, 3, 4, 5);
        due("backward, over itself", f.shift(0, 2, 0, 0, 3), 3);
        rowIs(f, 0, 3, 4, 5, 4, 5);
        due("all upon itself", f.shift(0, 0, 0, 0, 5), 5);
        rowIs(f, 0, 3, 4, 5, 4, 5);
        fill(f, 1, 2, 9, 9, 9);
        due("to the other's end", f.shift(0, 3, 1, 1, 2), 2);
        rowIs(f, 1, 9, 4, 5);
        due("none, from the end to the end", f.shift(0, 5, 1, 3, 0), 0);
        due("none, from behind the end", f.shift(0, 6, 1, 3, 0), -13);
        due("none, to behind the end", f.shift(0, 5, 1, 4, 0), -13);
        due("one beyond the end", f.shift(0, 5, 1, 0, 1), -13);
        due("one beyond the other's end", f.shift(0, 0, 1, 3, 1), -13);
        f.row(2, 2, 0);
        due("of an empty row", f.shift(2, 0, 2, 0, 0), 0);
        f.row(3, 2, 60);
        f.row(4, 2, 60);
        f.put(3, 59, 8);
        f.put(3, 0, 6);
        due("all sixty", f.shift(3, 0, 4, 0, 60), 60);
        due("the first of sixty", f.element(4, 0), 6);
        due("the last of sixty", f.element(4, 59), 8);
        due("sixty-one", f.shift(3, 0, 4, 0, 61), -13);

        edge("What a SHELF holds, taken for a BODY of KIND k (0 .. 7), or under it: its KIND.");
        CoachmenFace g = new CoachmenFace();
        g.body(5);
        g.body(7);
        g.body(0);
        g.keep(0, 0);
        g.keep(1, 1);
        g.keep(2, 2);
        int[] eldest = {5, -12, 5, 5, -12, 5, -12, -12};
        int[] rein = {7, -12, -12, -12, -12, -12, 7, 7};
        for (int k = 0; k < 8; k++) {
            due("an ELDEST for " + k, g.taken(0, k), eldest[k]);
            due("a REIN for " + k, g.taken(1, k), rein[k]);
            due("a COACHMAN for " + k, g.taken(2, k), k == 0 ? 0 : -12);
        }
    }

    private static void rowIs(CoachmenFace f, int shelf, long... items) {
        for (int i = 0; i < items.length; i++) {
            due("element " + i, f.element(shelf, i), items[i]);
        }
    }

    private static void carriagesFromRows() {
        edge("CARRIAGES FROM A ROW of shorts .. it ends where the row is missing");
        CoachmenFace f = new CoachmenFace();
        due("missing", f.carriages(0, 0, 6), 0);
        f.row(0, 1, 0);
        due("an empty one", f.carriages(0, 0, 6), 0);

        edge("ends (within a three, too)");
        fill(f, 0, 1, 10, 1, 1, 20, 2, 2, 30, 3);
        due("two whole ones", f.carriages(0, 0, 3), 2);
        due("from 6 on", f.carriages(0, 6, 1), 0);
        due("from 7 on", f.carriages(0, 7, 1), 0);
        due("from 8 on", f.carriages(0, 8, 1), 0);
        due("from 9 on", f.carriages(0, 9, 1), 0);
        due("far beyond", f.carriages(0, MAX, 1), 0);
        due("the last three of it, shifted", f.carriages(0, 5, 1), 0);
        due("two came", f.count(0), 2);

        edge("one is not as it may be .. those ahead came.");
        CoachmenFace g = new CoachmenFace();
        long[][] bad = {{-1, 0, 1}, {256, 0, 1}, {0, -1, 1}, {0, 8, 1}, {0, 0, 0}, {0, 0, 5}, {-32768, 0, 1}, {0, 0, -1}};
        for (long[] three : bad) {
            fill(g, 0, 1, 255, 7, 4, three[0], three[1], three[2], 0, 0, 1);
            due("three " + three[0] + " " + three[1] + " " + three[2], g.carriages(0, 0, 3), 1);
            due("the first of them", g.of(g.count(0) - 1, 2), 4);
            if (g.count(0) == 5) {
                g = new CoachmenFace();
            }
        }

        edge("or CARRIAGES are FULL: those ahead came.");
        CoachmenFace h = new CoachmenFace();
        h.row(0, 1, 60);
        for (int i = 2; i < 60; i += 3) {
            h.put(0, i, 1);
        }
        due("six at once", h.carriages(0, 0, 6), 6);
        due("none more", h.carriages(0, 0, 6), 0);
        h = new CoachmenFace();
        for (int k = 0; k < 4; k++) {
            h.carriage(1, 1);
        }
        fill(h, 0, 1, 5, 5, 2, 6, 6, 3, 7, 7, 4);
        due("two more", h.carriages(0, 0, 3), 2);
        due("the last: CELL", h.of(5, 0), 6);
        due("the last: PACE", h.of(5, 2), 3);

        edge("how many came (0 with i below 0)");
        CoachmenFace i = new CoachmenFace();
        fill(i, 0, 1, 5, 5, 2, 3, 6, 3);
        due("-1", i.carriages(0, -1, 1), 0);
        due("-3", i.carriages(0, -3, 2), 0);
        due("least", i.carriages(0, MIN, 6), 0);
        due("none came", i.count(0), 0);
        due("from 3 on", i.carriages(0, 3, 1), 1);
        due("from 1 on", i.carriages(0, 1, 1), 1);
        due("its CELL", i.of(1, 0), 5);
        due("its WAY", i.of(1, 1), 2);
    }
}
