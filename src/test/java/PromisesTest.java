/** One method a promise: ordinary inputs, the edges that the document names, and wrong inputs. */
public final class PromisesTest {
    private static final int BAD = CoachmenFace.BAD, NOT = CoachmenFace.NOT, FULL = CoachmenFace.FULL;
    private static final int STATE = CoachmenFace.STATE, VOID = CoachmenFace.VOID;
    private static final int NOTHING = -11, KIND = -12, NO_PLACE = -13, SIZE = -14;
    private static final int MAX = Integer.MAX_VALUE, MIN = Integer.MIN_VALUE;
    private static final long LMIN = Long.MIN_VALUE;

    private static void due(String what, long got, long want) {
        Check.due(what, got, want);
    }

    /** Cells by X and Y. */
    private static int at(int x, int y) {
        return 16 * y + x;
    }

    private static int tell(CoachmenFace f, String text) {
        for (int i = 0; i < text.length(); i++) {
            f.feed(text.charAt(i));
        }
        return f.law();
    }

    private static void fill(CoachmenFace f, int shelf, int sort, long... items) {
        f.row(shelf, sort, items.length);
        for (int i = 0; i < items.length; i++) {
            f.put(shelf, i, items[i]);
        }
    }

    public static void main(String[] args) {
        constants();
        p1newObject();
        p2carriage();
        p3carriages();
        p4place();
        p5mend();
        p6of();
        p7feed();
        p8law();
        p8faults();
        p9turn();
        p10later();
        p11nears();
        p12passes();
        p13meet();
        p14often();
        p15who();
        p16soonest();
        p17buy();
        p18judge();
        p19dined();
        p20reins();
        p21chance();
        p22mean();
        p23byTurns();
        p24drawn();
        p25hour();
        p26rein();
        p27shoe();
        p28buys();
        p29led();
        p30image();
        p31back();
        p32undo();
        p33redo();
        p34body();
        p35act();
        p36trace();
        p37keep();
        p38row();
        p39put();
        p40element();
        p41shift();
        p42taken();
        p43count();
        Check.end();
    }

    private static void constants() {
        due("BAD", CoachmenFace.BAD, -1);
        due("NOT", CoachmenFace.NOT, -2);
        due("FULL", CoachmenFace.FULL, -3);
        due("STATE", CoachmenFace.STATE, -5);
        due("VOID", CoachmenFace.VOID, -2000000000);
    }

    private static void p1newObject() {
        CoachmenFace f = new CoachmenFace();
        for (int what = 0; what <= 5; what++) {
            due("1 count " + what, f.count(what), 0);
        }
        for (int what = 0; what <= 4; what++) {
            due("1 led " + what, f.led(what), 0);
        }
        due("1 reach", f.of(0, 6), 1);
        due("1 wind", f.of(0, 7), 0);
        due("1 hour", f.of(0, 8), 0);
        due("1 trace", f.trace(0), BAD);
        for (int shelf = 0; shelf <= 5; shelf++) {
            due("1 shelf " + shelf, f.taken(shelf, 0), NOTHING);
        }
        due("1 no image", f.back(), STATE);
        CoachmenFace other = new CoachmenFace();
        f.carriage(3, 3);
        due("1 objects share nothing", other.count(0), 0);
    }

    private static void p2carriage() {
        CoachmenFace f = new CoachmenFace();
        due("2 cell below", f.carriage(-1, 0), BAD);
        due("2 cell above", f.carriage(256, 0), BAD);
        due("2 way below", f.carriage(0, -1), BAD);
        due("2 way above", f.carriage(0, 8), BAD);
        due("2 far out", f.carriage(MAX, MIN), BAD);
        due("2 none came", f.count(0), 0);
        due("2 first", f.carriage(0, 0), 0);
        due("2 edge", f.carriage(255, 7), 1);
        due("2 cell", f.of(1, 0), 255);
        due("2 way", f.of(1, 1), 7);
        due("2 pace", f.of(1, 2), 1);
        due("2 shoe", f.of(1, 3), 9);
        for (int k = 2; k < 6; k++) {
            due("2 number", f.carriage(k, k), k);
        }
        due("2 full", f.carriage(5, 5), FULL);
        due("2 bad ahead of full", f.carriage(256, 5), BAD);
        due("2 six", f.count(0), 6);
    }

    private static void p3carriages() {
        CoachmenFace f = new CoachmenFace();
        due("3 shelf", f.carriages(6, 0, 1), BAD);
        due("3 shelf below", f.carriages(-1, 0, 1), BAD);
        due("3 n 0", f.carriages(0, 0, 0), BAD);
        due("3 n 7", f.carriages(0, 0, 7), BAD);
        due("3 bad ahead of i below 0", f.carriages(0, -1, 7), BAD);
        due("3 nothing is missing", f.carriages(0, 0, 1), 0);
        f.body(0);
        f.keep(0, 0);
        due("3 a body", f.carriages(0, 0, 1), KIND);
        for (int sort = 0; sort <= 4; sort++) {
            f.row(0, sort, 3);
            due("3 sort " + sort, f.carriages(0, 0, 1), sort == 1 ? 0 : KIND);
        }
        f.row(0, 0, 3);
        due("3 of another kind, i below 0", f.carriages(0, -1, 1), KIND);
        fill(f, 0, 1, 17, 2, 3, 255, 7, 4, 9, 9);
        due("3 i below 0", f.carriages(0, -1, 1), 0);
        due("3 i far below", f.carriages(0, MIN, 1), 0);
        due("3 i far above", f.carriages(0, MAX, 6), 0);
        due("3 i nearly far above", f.carriages(0, MAX - 2, 6), 0);
        due("3 at the end", f.carriages(0, 8, 1), 0);
        due("3 ends within a three", f.carriages(0, 6, 1), 0);
        due("3 two whole ones", f.carriages(0, 0, 6), 2);
        due("3 cell", f.of(1, 0), 255);
        due("3 way", f.of(1, 1), 7);
        due("3 pace", f.of(1, 2), 4);
        due("3 shoe", f.of(1, 3), 9);
        due("3 no more than n", f.carriages(0, 0, 1), 1);
        due("3 the one at i", f.carriages(0, 3, 1), 1);
        due("3 the one at i came", f.of(3, 0), 255);
        fill(f, 1, 1, 5, 5, 0);
        due("3 pace 0", f.carriages(1, 0, 1), 0);
        fill(f, 1, 1, 5, 5, 5);
        due("3 pace 5", f.carriages(1, 0, 1), 0);
        fill(f, 1, 1, 256, 5, 4);
        due("3 cell 256", f.carriages(1, 0, 1), 0);
        fill(f, 1, 1, -1, 5, 4);
        due("3 cell -1", f.carriages(1, 0, 1), 0);
        fill(f, 1, 1, 1, 8, 4);
        due("3 way 8", f.carriages(1, 0, 1), 0);
        fill(f, 1, 1, 1, 1, 1, 2, 2, 2, 3, 3, 3);
        due("3 till full", f.carriages(1, 0, 3), 2);
        due("3 full", f.carriages(1, 0, 3), 0);
        due("3 six", f.count(0), 6);
        CoachmenFace g = new CoachmenFace();
        fill(g, 0, 1, 1, 1, 1);
        due("3 a three that ends with the row", g.carriages(0, 0, 2), 1);
        g.row(0, 1, 60);
        for (int i = 55; i < 63; i++) {
            due("3 at the end of the longest row, " + i, g.carriages(0, i, 1), 0);
        }
        g.put(0, 57, 3);
        g.put(0, 59, 3);
        due("3 the last three of the longest row", g.carriages(0, 57, 2), 1);
    }

    private static void p4place() {
        CoachmenFace f = new CoachmenFace();
        due("4 below", f.place(-1), BAD);
        due("4 above", f.place(256), BAD);
        for (int p = 0; p < 8; p++) {
            due("4 number", f.place(255 - p), p);
        }
        due("4 cell", f.of(7, 4), 248);
        due("4 worth", f.of(7, 5), 1);
        due("4 full", f.place(0), FULL);
        due("4 bad ahead of full", f.place(256), BAD);
        due("4 eight", f.count(1), 8);
    }

    private static void p5mend() {
        CoachmenFace f = new CoachmenFace();
        f.carriage(1, 1);
        f.carriage(2, 2);
        f.place(3);
        f.place(4);
        int[] least = {0, 0, 1, 0, 0, 0, 0, -3, 0};
        int[] most = {255, 7, 4, 9, 255, 9, 5, 3, 99};
        for (int what = 0; what <= 8; what++) {
            int number = what < 6 ? 1 : 0;
            int was = f.of(number, what);
            due("5 below, what " + what, f.mend(number, what, least[what] - 1), VOID);
            due("5 above, what " + what, f.mend(number, what, most[what] + 1), VOID);
            due("5 no change, what " + what, f.of(number, what), was);
            due("5 what it was, what " + what, f.mend(number, what, least[what]), was);
            due("5 least, what " + what, f.of(number, what), least[what]);
            due("5 again, what " + what, f.mend(number, what, most[what]), least[what]);
            due("5 most, what " + what, f.of(number, what), most[what]);
            due("5 no such number, what " + what, f.mend(what < 6 ? 2 : 1, what, least[what]), VOID);
            due("5 number below 0, what " + what, f.mend(-1, what, least[what]), VOID);
        }
        due("5 what below", f.mend(0, -1, 1), VOID);
        due("5 what above", f.mend(0, 9, 1), VOID);
        due("5 what far above", f.mend(0, MAX, 1), VOID);
        due("5 the other carriage", f.of(0, 0), 1);
        due("5 the other place", f.of(0, 4), 3);
    }

    private static void p6of() {
        CoachmenFace f = new CoachmenFace();
        due("6 no carriage", f.of(0, 0), VOID);
        due("6 no place", f.of(0, 4), VOID);
        f.carriage(20, 3);
        f.place(30);
        int[] first = {20, 3, 1, 9, 30, 1, 1, 0, 0};
        for (int what = 0; what <= 8; what++) {
            due("6 what " + what, f.of(0, what), first[what]);
            due("6 number 1, what " + what, f.of(1, what), VOID);
            due("6 number -1, what " + what, f.of(-1, what), VOID);
        }
        due("6 what below", f.of(0, -1), VOID);
        due("6 what above", f.of(0, 9), VOID);
    }

    private static void p7feed() {
        CoachmenFace f = new CoachmenFace();
        due("7 below", f.feed(-1), BAD);
        due("7 above", f.feed(256), BAD);
        due("7 least", f.feed(0), 1);
        due("7 most", f.feed(255), 2);
        for (int i = 3; i <= 120; i++) {
            due("7 many", f.feed('1'), i);
        }
        due("7 full", f.feed('1'), FULL);
        due("7 bad ahead of full", f.feed(256), BAD);
        due("7 count", f.count(2), 120);
        f.law();
        due("7 again", f.feed('1'), 1);
    }

    /** What a text gives for a carriage 1 of way 5, pace 3, shoe 4, with wind -2, hour 30. */
    private static int gives(String text) {
        CoachmenFace f = new CoachmenFace();
        f.carriage(0, 0);
        f.carriage(100, 5);
        f.mend(1, 2, 3);
        f.mend(1, 3, 4);
        f.mend(0, 7, -2);
        f.mend(0, 8, 30);
        due("8 " + text, tell(f, text), 1);
        return f.turn(1);
    }

    private static void p8law() {
        String[] nought = {
            "0", "w+2", "s-4", "h-30", "d-5", "k-1", "p-3", "1-1", "0000", "2*0", "5/0", "5%0", "6%3", "1/2",
            "!1", "!9", "--0", "-0", "3<3", "4<3", "3>3", "3>4", "3=4", "0|0", "0&1", "1&0", "2&0", "7/8",
            "1?0", "0?1", "0?1;0?1", "1?0;1", "(1)-(1)", "9-3-6", "8/4/2-1", "1-!0", "0=1=1".substring(0, 3),
            "(-7)/2+3", "(-7)%4+3", "-7/2+3", "-7%4+3", "2*3%4-2", "10-2*5", "(1<2)-1", "(5|0)-1", "(5&3)-1",
            "1|0&0?0;5", "!5+0", "!(1|0)", "1+2=4|0", "9999-9999",
        };
        for (String text : nought) {
            due("8 " + text + " gives", gives(text), 0);
        }
        String[] one = {
            "1", "5", "9999", "-w", "s", "h", "d", "k", "p", "!0", "!!7", "3<4", "4>3", "3=3", "0|2", "2|0", "2&3",
            "1?1;0", "0?0;1", "0?5;1?6;0", "--1", "!-0", "0-w", "(((((1)))))", "((((((1))))))", "!!!!!!1", "------1",
            "2-1", "9-3-5", "w<0", "s=4&h=30&d=5&k=1&p=3&w=-2", "1|0&0", "9999*9999*9999*9999>0",
            "9999*9999<0-9999|1", "1+2=3", "2*3>5", "!0*3", "0?0;0?0;1", "-1?1;0", "0-1=-1", "5=5", "(1<2)=1",
        };
        for (String text : one) {
            due("8 " + text + " gives", gives(text), 1);
        }
        String[] less = {"-1", "-5", "w", "w-1", "0-1", "1-2-3", "-!0", "0?1;-1", "1?-1;1", "---1", "2-3*1", "-(1)", "(-9)/2", "(-9)%2"};
        for (String text : less) {
            due("8 " + text + " gives", gives(text), -1);
        }
        // 9999 ^ 4 is 9996000599960001 and, wrapped to an int, 1208110337 + ..: worked out by Java's own ints
        int wrapped = 9999 * 9999 * 9999 * 9999;
        due("8 wraps", gives("9999*9999*9999*9999"), Integer.signum(wrapped));
        due("8 wraps once", gives("9999*9999*99"), Integer.signum(9999 * 9999 * 99));

        CoachmenFace f = new CoachmenFace();
        f.carriage(17, 0);
        due("8 without a text", f.turn(0), 0);
        due("8 empty", f.law(), -100);
        due("8 still without a text", f.turn(0), 0);
        due("8 told", tell(f, "1"), 1);
        due("8 the tape is empty", f.count(2), 0);
        due("8 the law holds", f.turn(0), 1);
        due("8 fault", tell(f, "0-"), -102);
        due("8 the tape is empty behind a fault", f.count(2), 0);
        due("8 the law before it stays", f.turn(0), 1);
        due("8 another", tell(f, "0-1"), 1);
        due("8 the other law holds", f.turn(0), -1);
    }

    private static void faultIs(String text, int fault) {
        CoachmenFace f = new CoachmenFace();
        due("8 fault of " + text, tell(f, text), -100 - fault);
    }

    private static void p8faults() {
        faultIs("", 0);
        faultIs("a", 0);
        faultIs("W", 0);
        faultIs(" 1", 0);
        faultIs("1 ", 1);
        faultIs("12345", 4);
        faultIs("1234+12345", 9);
        faultIs("1;", 2);
        faultIs(";1", 0);
        faultIs("1;;1", 2);
        faultIs("1?", 2);
        faultIs("1?2?3", 3);
        faultIs("(1?2)", 2);
        faultIs("(1;2)", 2);
        faultIs("(1", 2);
        faultIs("1)", 1);
        faultIs("()", 1);
        faultIs("1<2<3", 3);
        faultIs("1=2>3", 3);
        faultIs("1<2&3<4<5", 7);
        faultIs("1<2+3=4", 5);
        faultIs("(1<2)<3<4", 7);
        faultIs("1+", 2);
        faultIs("1++2", 2);
        faultIs("1+!", 3);
        faultIs("1!", 1);
        faultIs("ww", 1);
        faultIs("w1", 1);
        faultIs("1w", 1);
        faultIs("*1", 0);
        faultIs("1|", 2);
        faultIs("1||1", 2);
        faultIs("((((((1))))))1", 13);
        faultIs("(((((((1", 6);
        faultIs("!!!!!!!1", 6);
        faultIs("-------1", 6);
        faultIs("(!-(!-(1", 6);
        faultIs("((((((1+-1", 8);
        faultIs("(((((1+!-1", 8);
        faultIs("\u00ff", 0);
        faultIs("1\u00e9", 1);
        CoachmenFace f = new CoachmenFace();
        for (int i = 0; i < 60; i++) {
            f.feed('1');
            f.feed('+');
        }
        due("8 too early at 120 bytes", f.law(), -220);
        for (int i = 0; i < 119; i++) {
            f.feed(i % 2 == 0 ? '1' : '-');
        }
        due("8 a long one", f.law(), 1);
        f.carriage(0, 0);
        due("8 the long one gives", f.turn(0), -1);
        due("8 open ones close", tell(f, "((((((1))))))+((((((1))))))+!!!!!!1+------1"), 1);
    }

    private static void p9turn() {
        CoachmenFace f = new CoachmenFace();
        due("9 none", f.turn(0), VOID);
        f.carriage(0, 3);
        due("9 below", f.turn(-1), VOID);
        due("9 above", f.turn(1), VOID);
        due("9 shod", f.turn(0), 0);
        f.mend(0, 3, 1);
        due("9 shod for one hour", f.turn(0), 0);
        f.mend(0, 3, 0);
        due("9 unshod", f.turn(0), 1);
        tell(f, "d-3");
        due("9 by the law", f.turn(0), 0);
        f.mend(0, 1, 7);
        due("9 held within 1", f.turn(0), 1);
        f.mend(0, 1, 0);
        due("9 held within -1", f.turn(0), -1);
        due("9 the way stays", f.of(0, 1), 0);
    }

    private static void p10later() {
        CoachmenFace f = new CoachmenFace();
        due("10 none", f.later(0, 0, 0), BAD);
        f.carriage(at(8, 8), 0);
        due("10 carriage", f.later(1, 0, 0), BAD);
        due("10 n below", f.later(0, -1, 0), BAD);
        due("10 n above", f.later(0, 61, 0), BAD);
        due("10 what below", f.later(0, 0, -1), BAD);
        due("10 what above", f.later(0, 0, 3), BAD);
        int[] x = {8, 9, 9, 9, 8, 7, 7, 7};
        int[] y = {7, 7, 8, 9, 9, 9, 8, 7};
        for (int way = 0; way < 8; way++) {
            f.mend(0, 1, way);
            due("10 way " + way, f.later(0, 1, 0), at(x[way], y[way]));
            due("10 keeps way " + way, f.later(0, 1, 1), way);
        }
        due("10 shoe", f.later(0, 3, 2), 6);
        due("10 shoe stays 0", f.later(0, 60, 2), 0);
        due("10 now", f.later(0, 0, 0), at(8, 8));
        // to the right, from 13: 14, 15, then round to 14, 13
        f.mend(0, 0, at(13, 8));
        f.mend(0, 1, 2);
        f.mend(0, 2, 4);
        due("10 round at the edge", f.later(0, 1, 0), at(13, 8));
        due("10 the other way", f.later(0, 1, 1), 6);
        // in a corner, across it: it turns round in each step and stays
        f.mend(0, 0, at(15, 0));
        f.mend(0, 1, 3);
        f.mend(0, 2, 3);
        due("10 stays across the corner", f.later(0, 1, 0), at(15, 0));
        due("10 turned by each step", f.later(0, 1, 1), 7);
        f.mend(0, 2, 2);
        due("10 turned twice", f.later(0, 1, 1), 3);
        // unshod behind one hour: it turns in the second, behind 7 comes 0
        f.mend(0, 0, at(8, 8));
        f.mend(0, 1, 7);
        f.mend(0, 2, 1);
        f.mend(0, 3, 1);
        due("10 still shod", f.later(0, 1, 1), 7);
        due("10 unshod", f.later(0, 2, 1), 0);
        due("10 unshod: where", f.later(0, 2, 0), at(7, 6));
        due("10 turns on", f.later(0, 3, 1), 1);
        // the hour as it begins, and no further than 99
        f.mend(0, 8, 98);
        tell(f, "h=98?1;h=99?-1;0");
        f.mend(0, 1, 4);
        due("10 hour 98", f.later(0, 1, 1), 5);
        due("10 hour 99", f.later(0, 2, 1), 4);
        due("10 hour 99 stays", f.later(0, 3, 1), 3);
        // behind 0 comes 7
        f.mend(0, 1, 0);
        f.mend(0, 8, 99);
        due("10 ahead of 0", f.later(0, 1, 1), 7);
        due("10 nothing has moved", f.of(0, 0), at(8, 8));
        due("10 no hour has passed", f.of(0, 8), 99);
    }

    private static void p11nears() {
        CoachmenFace f = new CoachmenFace();
        f.carriage(at(2, 5), 2);
        due("11 no place", f.nears(0, 0, 0), BAD);
        f.place(at(6, 7));
        f.place(at(2, 5));
        due("11 carriage", f.nears(10, 0, 0), BAD);
        due("11 place", f.nears(2, 0, 0), BAD);
        due("11 below", f.nears(-1, 0, 0), BAD);
        due("11 far above", f.nears(MAX, 0, 0), BAD);
        due("11 n below", f.nears(0, -1, 0), BAD);
        due("11 n above", f.nears(0, 61, 0), BAD);
        due("11 what below", f.nears(0, 0, -1), BAD);
        due("11 what above", f.nears(0, 0, 2), BAD);
        due("11 now", f.nears(0, 0, 0), 4);
        due("11 now, when", f.nears(0, 0, 1), 0);
        // apart 4, 3, 2, 2, 2, 2 (X 7), 2 (X 8), 3: the first of the least counts
        due("11 least", f.nears(0, 9, 0), 2);
        due("11 first", f.nears(0, 9, 1), 2);
        due("11 one hour", f.nears(0, 1, 0), 3);
        due("11 one hour, when", f.nears(0, 1, 1), 1);
        tell(f, "0");
        f.carriage(at(2, 15), 0);
        due("11 the other carriage and place", f.nears(11, 60, 0), 0);
        due("11 the other carriage and place, when", f.nears(11, 60, 1), 10);
        due("11 the other carriage", f.nears(10, 8, 0), 4);
        due("11 the other carriage, when", f.nears(10, 8, 1), 4);
        due("11 there", f.nears(1, 60, 0), 0);
        due("11 there, when", f.nears(1, 60, 1), 0);
    }

    private static void p12passes() {
        CoachmenFace f = new CoachmenFace();
        due("12 none", f.passes(0, 0, 0), BAD);
        f.carriage(at(2, 5), 2);
        due("12 no places", f.passes(0, 9, 0), 0);
        due("12 no worth", f.passes(0, 9, 1), 0);
        f.place(at(6, 7));
        f.place(at(5, 6));
        f.place(at(1, 4));
        f.mend(1, 5, 7);
        f.mend(2, 5, 4);
        due("12 n below", f.passes(0, -1, 0), BAD);
        due("12 n above", f.passes(0, 61, 0), BAD);
        due("12 what below", f.passes(0, 0, -1), BAD);
        due("12 what above", f.passes(0, 0, 2), BAD);
        due("12 now", f.passes(0, 0, 0), 4);
        due("12 now, worth", f.passes(0, 0, 1), 4);
        due("12 one hour", f.passes(0, 1, 0), 4);
        due("12 two hours", f.passes(0, 2, 0), 6);
        due("12 worth", f.passes(0, 2, 1), 11);
        f.mend(0, 6, 2);
        due("12 by reach", f.passes(0, 2, 0), 7);
        f.mend(0, 6, 0);
        due("12 reach 0", f.passes(0, 9, 0), 0);
    }

    private static void p13meet() {
        CoachmenFace f = new CoachmenFace();
        f.carriage(at(0, 3), 2);
        due("13 one alone", f.meet(1), BAD);
        f.carriage(at(9, 3), 6);
        due("13 below", f.meet(-1), BAD);
        due("13 like", f.meet(11), BAD);
        due("13 like 0", f.meet(0), BAD);
        due("13 none such", f.meet(2), BAD);
        due("13 none such ahead", f.meet(20), BAD);
        due("13 far above", f.meet(101), BAD);
        // 9 apart, 2 less an hour: 1 behind 4 hours
        due("13 first", f.meet(1), 4);
        due("13 the other way about", f.meet(10), 4);
        f.mend(0, 6, 0);
        f.mend(0, 3, 9);
        // at X 4 and 5, then 5 and 4: they go by without being in one cell, as long as both are shod
        tell(f, "0");
        due("13 never in one cell", f.meet(1), NOT);
        f.mend(1, 0, at(8, 3));
        due("13 in one cell", f.meet(1), 4);
        f.mend(1, 0, at(0, 3));
        due("13 now", f.meet(1), 0);
        f.mend(0, 0, at(0, 0));
        f.mend(0, 1, 2);
        f.carriage(at(2, 2), 4);
        due("13 others by their numbers, in one cell", f.meet(20), 28);
        // at (3, 0) and (2, 1), both on the way back
        f.mend(0, 6, 1);
        due("13 others are near", f.meet(2), 27);
        due("13 in the 60th hour", inTheLastHour().meet(1), 60);
        CoachmenFace g = inTheLastHour();
        g.mend(1, 0, at(0, 11));
        due("13 not in the 60th hour", g.meet(1), NOT);
    }

    /**
     * The first stays in the corner; the second, along a row there, back, there and half back, turns up
     * and left in its 51st hour and is in the corner behind 60 hours.
     */
    private static CoachmenFace inTheLastHour() {
        CoachmenFace f = new CoachmenFace();
        f.mend(0, 6, 0);
        tell(f, "k=1&h=50");
        f.carriage(at(0, 0), 1);
        f.carriage(at(0, 10), 2);
        f.place(at(15, 10));
        f.place(at(0, 0));
        return f;
    }

    private static void p14often() {
        CoachmenFace f = new CoachmenFace();
        f.carriage(at(0, 3), 2);
        f.carriage(at(9, 3), 6);
        due("14 like", f.often(11, 3), BAD);
        due("14 none such", f.often(2, 3), BAD);
        due("14 below", f.often(-1, 3), BAD);
        due("14 n below", f.often(1, -1), BAD);
        due("14 n above", f.often(1, 61), BAD);
        due("14 not yet", f.often(1, 3), 0);
        due("14 once", f.often(1, 4), 1);
        due("14 twice", f.often(1, 5), 2);
        due("14 gone by", f.often(10, 6), 2);
        f.mend(1, 0, at(0, 3));
        f.mend(1, 1, 2);
        due("14 always", f.often(1, 60), 61);
        due("14 now counts", f.often(1, 0), 1);
        due("14 in the 60th hour", inTheLastHour().often(1, 60), 1);
        due("14 not yet in the 59th", inTheLastHour().often(1, 59), 0);
    }

    private static void p15who() {
        CoachmenFace f = new CoachmenFace();
        due("15 none", f.who(0, 0), 0);
        due("15 cell below", f.who(-1, 0), BAD);
        due("15 cell above", f.who(256, 0), BAD);
        due("15 n below", f.who(0, -1), BAD);
        due("15 n above", f.who(0, 61), BAD);
        f.carriage(at(0, 3), 2);
        f.carriage(at(9, 3), 6);
        f.carriage(at(4, 0), 4);
        due("15 now", f.who(at(1, 4), 0), 1);
        due("15 behind 4 hours", f.who(at(4, 4), 4), 7);
        // at (6, 3), (3, 3), (4, 6)
        due("15 just then", f.who(at(4, 4), 6), 2);
        due("15 behind 5 hours", f.who(at(5, 4), 5), 7);
    }

    private static void p16soonest() {
        CoachmenFace f = new CoachmenFace();
        f.place(at(0, 0));
        due("16 no other", f.soonest(1, 0), BAD);
        f.place(at(15, 0));
        f.place(at(15, 15));
        due("16 like", f.soonest(11, 0), BAD);
        due("16 below", f.soonest(-1, 0), BAD);
        due("16 none such", f.soonest(30, 0), BAD);
        due("16 what below", f.soonest(1, -1), BAD);
        due("16 what above", f.soonest(1, 2), BAD);
        due("16 without carriages", f.soonest(1, 0), NOT);
        due("16 without carriages, by which", f.soonest(1, 1), NOT);
        tell(f, "0");
        f.mend(0, 6, 0);
        // along the upper edge, near 0 now, at the other end behind 15 hours
        f.carriage(at(0, 0), 2);
        due("16 one", f.soonest(1, 0), 15);
        due("16 by one", f.soonest(1, 1), 1);
        // he waits at 1 till it comes, then goes along to 0 by hour 30
        due("16 waits", f.soonest(10, 0), 30);
        due("16 not there", f.soonest(2, 0), NOT);
        // down the right edge: at 1 behind 15 hours, at 2 behind 30
        f.carriage(at(15, 15), 0);
        due("16 changes", f.soonest(2, 0), 30);
        due("16 by both", f.soonest(2, 1), 3);
        // one that goes along with the first, one that is never met
        f.carriage(at(0, 0), 2);
        f.carriage(at(7, 9), 2);
        due("16 all he can be in", f.soonest(1, 1), 7);
        // a chain in one and the same hour
        CoachmenFace g = new CoachmenFace();
        g.place(at(0, 5));
        g.place(at(7, 5));
        for (int k = 5; k >= 0; k--) {
            g.carriage(at(1 + k, 5), 0);
        }
        due("16 a chain", g.soonest(1, 0), 0);
        due("16 all of the chain", g.soonest(1, 1), 63);
        due("16 the chain back", g.soonest(10, 1), 63);
        due("16 in the 60th hour", inTheLastHour().soonest(1, 0), 60);
        due("16 in the 60th hour, by which", inTheLastHour().soonest(1, 1), 3);
    }

    private static void p17buy() {
        CoachmenFace f = new CoachmenFace();
        due("17 nothing", f.buy(1, 0, 0), 0);
        due("17 k below", f.buy(0, 0, 0), BAD);
        due("17 k above", f.buy(4, 0, 0), BAD);
        due("17 n below", f.buy(1, -1, 0), BAD);
        due("17 n above", f.buy(1, 31, 0), BAD);
        due("17 n most", f.buy(3, 30, 0), 0);
        due("17 what below", f.buy(1, 0, -1), BAD);
        due("17 what above", f.buy(1, 0, 2), BAD);
        tell(f, "0");
        f.place(at(0, 1));
        f.place(at(5, 1));
        f.place(at(10, 1));
        f.place(at(10, 1));
        due("17 no carriage", f.buy(3, 0, 1), 0);
        f.carriage(at(0, 0), 2);
        f.carriage(at(5, 0), 2);
        f.carriage(at(10, 0), 2);
        f.carriage(at(9, 0), 2);
        due("17 best one", f.buy(1, 0, 0), 2);
        due("17 which: least bits", f.buy(1, 0, 1), 4);
        due("17 two", f.buy(2, 0, 0), 3);
        due("17 which two", f.buy(2, 0, 1), 5);
        due("17 three", f.buy(3, 0, 0), 4);
        due("17 which three", f.buy(3, 0, 1), 7);
        // behind 9 hours all came by 2
        due("17 by hours", f.buy(3, 9, 0), 4);
        due("17 fewest", f.buy(3, 9, 1), 4);
        due("17 not all yet", f.buy(1, 8, 0), 3);
        CoachmenFace g = new CoachmenFace();
        g.place(0);
        g.carriage(255, 6);
        due("17 none pass", g.buy(3, 0, 0), 0);
        due("17 none pass: none bought", g.buy(3, 0, 1), 0);
    }

    private static void p18judge() {
        CoachmenFace f = new CoachmenFace();
        due("18 no carriage ahead of nothing", f.judge(0, 0), BAD);
        f.carriage(at(0, 0), 2);
        due("18 shelf below", f.judge(-1, 0), BAD);
        due("18 shelf above", f.judge(6, 0), BAD);
        due("18 carriage", f.judge(0, 1), BAD);
        due("18 nothing", f.judge(0, 0), NOTHING);
        f.body(0);
        f.keep(0, 0);
        due("18 a body", f.judge(0, 0), KIND);
        for (int sort = 1; sort <= 4; sort++) {
            f.row(0, sort, 2);
            due("18 sort " + sort, f.judge(0, 0), KIND);
        }
        f.place(at(0, 0));
        f.place(at(4, 0));
        f.row(0, 0, 0);
        due("18 an empty row", f.judge(0, 0), NOT);
        fill(f, 0, 0, 0, 0, 3, 1, 5, 1, 1, 0);
        due("18 all so", f.judge(0, 0), NOT);
        fill(f, 0, 0, 0, 0, 3, 1, 6, 1, 1, 1);
        due("18 the third", f.judge(0, 0), 2);
        fill(f, 0, 0, 0, 0, 3, 2);
        due("18 no such place", f.judge(0, 0), 1);
        fill(f, 0, 0, 0, 0, 3, -1);
        due("18 place below 0", f.judge(0, 0), 1);
        fill(f, 0, 0, -1, 0);
        due("18 hour below 0", f.judge(0, 0), 0);
        fill(f, 0, 0, 0, 0, 61, 0);
        due("18 hour above 60", f.judge(0, 0), 1);
        fill(f, 0, 0, 0, 0, 127, 0);
        due("18 hour 127", f.judge(0, 0), 1);
        fill(f, 0, 0, 0, 0, 3);
        due("18 lacking", f.judge(0, 0), 1);
        f.row(0, 0, 40);
        due("18 twenty", f.judge(0, 0), NOT);
        f.put(0, 38, 2);
        due("18 the twentieth counts", f.judge(0, 0), 19);
        f.row(0, 0, 60);
        f.put(0, 40, 2);
        due("18 beyond the twentieth", f.judge(0, 0), NOT);
        f.row(0, 0, 41);
        due("18 lacking beyond the twentieth", f.judge(0, 0), NOT);
        f.row(0, 0, 39);
        due("18 the twentieth lacks", f.judge(0, 0), 19);
    }

    private static void p19dined() {
        CoachmenFace f = new CoachmenFace();
        due("19 no carriage", f.dined(0, 0, 0), BAD);
        f.carriage(at(8, 8), 2);
        due("19 shelf", f.dined(6, 0, 0), BAD);
        due("19 shelf below", f.dined(-1, 0, 0), BAD);
        due("19 what below", f.dined(0, 0, -1), BAD);
        due("19 what above", f.dined(0, 0, 4), BAD);
        due("19 nothing", f.dined(0, 0, 0), NOTHING);
        f.row(0, 1, 2);
        due("19 of another kind", f.dined(0, 0, 0), KIND);
        f.row(0, 0, 0);
        due("19 all ways", f.dined(0, 0, 0), 255);
        due("19 all cells", f.dined(0, 0, 1), 256);
        due("19 the least", f.dined(0, 0, 2), 0);
        due("19 all paces", f.dined(0, 0, 3), 30);
        f.place(at(10, 6));
        fill(f, 0, 0, 2, 0);
        due("19 up and right", f.dined(0, 0, 0), 2);
        f.mend(0, 6, 2);
        due("19 with more reach", f.dined(0, 0, 0), 7);
        // reach 2, behind 2 hours to the right: X 8 .. 12 less 2, Y 4 .. 8
        due("19 cells", f.dined(0, 0, 1), 25);
        due("19 least cell", f.dined(0, 0, 2), at(6, 4));
        // by pace 1 at X 10, by 2 at X 12, by 3 at 14, by 4 at 14 again (round at 15)
        due("19 paces", f.dined(0, 0, 3), 6);
        fill(f, 0, 0, 2, 0, 2);
        due("19 lacking: no way", f.dined(0, 0, 0), 0);
        due("19 lacking: no cell", f.dined(0, 0, 1), 0);
        due("19 lacking: no least", f.dined(0, 0, 2), NOT);
        due("19 lacking: no pace", f.dined(0, 0, 3), 0);
        due("19 carriage as it was: cell", f.of(0, 0), at(8, 8));
        due("19 carriage as it was: way", f.of(0, 1), 2);
        due("19 carriage as it was: pace", f.of(0, 2), 1);
        // the law is asked by the pace that is tried: by 2 it turns down
        tell(f, "p=2?1;0");
        f.mend(0, 6, 0);
        f.mend(0, 4, at(10, 10));
        fill(f, 0, 0, 1, 0);
        due("19 the law by the pace", f.dined(0, 0, 3), 4);
    }

    private static void p20reins() {
        CoachmenFace f = new CoachmenFace();
        f.carriage(at(8, 8), 2);
        f.place(at(10, 8));
        f.place(at(8, 8));
        f.place(at(0, 0));
        f.mend(0, 6, 0);
        due("20 none such", f.reins(3, 0, -1), BAD);
        due("20 below", f.reins(-1, 0, -1), BAD);
        due("20 t below", f.reins(0, -1, -1), BAD);
        due("20 t above", f.reins(0, 13, -1), BAD);
        due("20 k below", f.reins(0, 1, -2), BAD);
        due("20 none", f.reins(0, 2, -1), 0);
        due("20 none: first hour", f.reins(0, 2, 0), 1);
        due("20 none: second hour", f.reins(0, 2, 1), 1);
        due("20 not as many hours", f.reins(0, 2, 2), NOT);
        due("20 far more", f.reins(0, 2, MAX), NOT);
        due("20 by none", f.reins(2, 2, -1), NOT);
        due("20 by none, an hour", f.reins(2, 2, 0), NOT);
        due("20 now", f.reins(1, 0, -1), 0);
        due("20 not now", f.reins(0, 0, -1), NOT);
        // right, then back: four turns of one are not to be had in one hour; two apart needs a way round
        f.mend(0, 0, at(9, 7));
        f.mend(0, 1, 3);
        // down and right to (10, 8) in one hour; behind 2 hours it is there no more
        due("20 one hour", f.reins(0, 1, -1), 0);
        // less first among like ones: from (8, 8) facing right to a place above or below of the line
        f.mend(0, 0, at(8, 8));
        f.mend(0, 1, 2);
        f.mend(0, 4, at(9, 7));
        due("20 less", f.reins(0, 1, -1), 1);
        due("20 less: which", f.reins(0, 1, 0), 0);
        f.mend(0, 4, at(9, 9));
        due("20 more: which", f.reins(0, 1, 0), 2);
        f.mend(0, 4, at(11, 8));
        f.mend(0, 6, 1);
        // behind 3 hours by none at (11, 8)
        due("20 none is fewest", f.reins(0, 3, -1), 0);
        // reach 1 about (10, 7): right, right is near; the none path wins over one rein
        f.mend(0, 4, at(10, 6));
        f.mend(0, 6, 1);
        due("20 one of two", f.reins(0, 2, -1), 1);
        due("20 none first", f.reins(0, 2, 0), 1);
        due("20 then less", f.reins(0, 2, 1), 0);
        // the law turns by 1, a rein adds one more: two in one hour
        tell(f, "1");
        f.mend(0, 6, 0);
        f.mend(0, 4, at(8, 9));
        due("20 beyond the law", f.reins(0, 1, -1), 1);
        due("20 beyond the law: more", f.reins(0, 1, 0), 2);
        due("20 twelve hours", f.reins(0, 12, 12), NOT);
        due("20 nothing has moved", f.of(0, 0), at(8, 8));
        // up into the corner: cell 0, way 0
        tell(f, "0");
        f.carriage(at(0, 1), 0);
        f.mend(1, 4, at(0, 0));
        due("20 another carriage, another place", f.reins(11, 1, -1), 0);
        due("20 another carriage, the same place", f.reins(10, 1, -1), NOT);
        // eleven hours straight on, then aside in the twelfth
        f.mend(1, 0, at(1, 5));
        f.mend(1, 1, 2);
        f.mend(1, 4, at(13, 4));
        due("20 the twelfth hour", f.reins(11, 12, -1), 1);
        due("20 the twelfth hour: less", f.reins(11, 12, 11), 0);
        due("20 the eleventh hour: none", f.reins(11, 12, 10), 1);
        f.mend(1, 4, at(13, 6));
        due("20 the twelfth hour: more", f.reins(11, 12, 11), 2);
        // aside and back in two hours: two reins, none as long as may be, then less before more
        f.mend(1, 4, at(13, 3));
        due("20 two rows up", f.reins(11, 12, -1), 1);
        due("20 two rows up: in the eleventh hour", f.reins(11, 12, 10), 0);
        due("20 two rows up: none in the twelfth", f.reins(11, 12, 11), 1);
    }

    private static void p21chance() {
        CoachmenFace f = new CoachmenFace();
        f.carriage(at(8, 8), 2);
        f.place(at(10, 8));
        f.mend(0, 6, 0);
        due("21 none such", f.chance(1, 1, 1, 0), LMIN);
        due("21 no carriage", f.chance(10, 1, 1, 0), LMIN);
        due("21 below", f.chance(-1, 1, 1, 0), LMIN);
        due("21 t below", f.chance(0, -1, 1, 0), LMIN);
        due("21 t above", f.chance(0, 9, 1, 0), LMIN);
        due("21 x below", f.chance(0, 1, -1, 0), LMIN);
        due("21 x above", f.chance(0, 1, 13, 0), LMIN);
        due("21 part below", f.chance(0, 1, 1, -1), LMIN);
        due("21 part above", f.chance(0, 1, 1, 2), LMIN);
        due("21 not now", f.chance(0, 0, 6, 0), 0);
        f.mend(0, 6, 2);
        due("21 now", f.chance(0, 0, 6, 0), 1);
        due("21 now by one", f.chance(0, 0, 6, 1), 1);
        f.mend(0, 6, 0);
        // there by turning in neither of two hours: 9/12 by 9/12
        due("21 above the line", f.chance(0, 2, 3, 0), 9);
        due("21 below the line", f.chance(0, 2, 3, 1), 16);
        due("21 never", f.chance(0, 1, 3, 0), 0);
        due("21 never by one", f.chance(0, 1, 3, 1), 1);
        due("21 sure", f.chance(0, 2, 0, 0), 1);
        due("21 sure by one", f.chance(0, 2, 0, 1), 1);
        // always turned: down right, then down
        f.mend(0, 4, at(9, 10));
        due("21 always turned", f.chance(0, 2, 12, 0), 1);
        f.mend(0, 6, 1);
        f.mend(0, 4, at(10, 9));
        // ends: (10,8) by 00, (9+1,9) .. all four within one of (10, 9)
        due("21 all near", f.chance(0, 2, 5, 0), 1);
        f.mend(0, 6, 5);
        due("21 eight hours", f.chance(0, 8, 1, 1) > 0 ? 1 : 0, 1);
        // the law turns by 1, the chance by one more
        tell(f, "1");
        f.mend(0, 6, 0);
        f.mend(0, 4, at(8, 9));
        due("21 beyond the law", f.chance(0, 1, 4, 0), 1);
        due("21 beyond the law, below", f.chance(0, 1, 4, 1), 3);
    }

    private static void p22mean() {
        CoachmenFace f = new CoachmenFace();
        f.carriage(at(8, 8), 2);
        f.place(at(13, 8));
        due("22 none such", f.mean(1, 1, 1, 0), LMIN);
        due("22 no carriage", f.mean(10, 1, 1, 0), LMIN);
        due("22 below", f.mean(-1, 1, 1, 0), LMIN);
        due("22 t below", f.mean(0, -1, 1, 0), LMIN);
        due("22 t above", f.mean(0, 9, 1, 0), LMIN);
        due("22 x below", f.mean(0, 1, -1, 0), LMIN);
        due("22 x above", f.mean(0, 1, 13, 0), LMIN);
        due("22 part below", f.mean(0, 1, 1, -1), LMIN);
        due("22 part above", f.mean(0, 1, 1, 2), LMIN);
        due("22 now", f.mean(0, 0, 7, 0), 5);
        due("22 now by one", f.mean(0, 0, 7, 1), 1);
        due("22 both ways 4", f.mean(0, 1, 7, 0), 4);
        // X behind 2 hours: 10 if none, 10 if in either one alone, 9 if both (down right, then down): 3 .. 3, 4 by 1/4
        due("22 above the line", f.mean(0, 2, 6, 0), 13);
        due("22 below the line", f.mean(0, 2, 6, 1), 4);
        f.mend(0, 4, at(9, 8));
        f.carriage(at(2, 2), 4);
        f.place(at(2, 9));
        due("22 another carriage and place", f.mean(11, 3, 0, 0), 4);
        due("22 another carriage", f.mean(10, 3, 0, 0), 7);
        due("22 there", f.mean(0, 1, 0, 0), 0);
        due("22 there by one", f.mean(0, 1, 0, 1), 1);
    }

    private static void p23byTurns() {
        CoachmenFace f = new CoachmenFace();
        f.carriage(at(8, 8), 2);
        f.place(at(9, 5));
        due("23 none such", f.byTurns(1, 1, 0), BAD);
        due("23 no carriage", f.byTurns(10, 1, 0), BAD);
        due("23 below", f.byTurns(-1, 1, 0), BAD);
        due("23 n below", f.byTurns(0, 0, 0), BAD);
        due("23 n above", f.byTurns(0, 7, 0), BAD);
        due("23 what below", f.byTurns(0, 1, -1), BAD);
        due("23 what above", f.byTurns(0, 1, 2), BAD);
        // she goes up and right: (9, 7), 2 apart
        due("23 hers alone", f.byTurns(0, 1, 0), 2);
        due("23 less", f.byTurns(0, 1, 1), 0);
        // then he turns it back to the right: (10, 7); she none: he goes down right to (10, 9)
        due("23 his", f.byTurns(0, 2, 0), 2);
        due("23 less again", f.byTurns(0, 2, 1), 0);
        f.mend(0, 4, at(9, 11));
        due("23 more", f.byTurns(0, 1, 1), 2);
        // 6 apart by X whatever she does: none first
        f.mend(0, 4, at(15, 8));
        due("23 like ones", f.byTurns(0, 1, 0), 6);
        due("23 none first", f.byTurns(0, 1, 1), 1);
        // as near to the left: less and more alike, none worse
        f.mend(0, 1, 2);
        tell(f, "0");
        f.mend(0, 4, at(8, 8));
        due("23 all alike", f.byTurns(0, 1, 1), 1);
        f.mend(0, 2, 4);
        f.mend(0, 0, at(14, 1));
        f.mend(0, 1, 0);
        f.mend(0, 4, at(14, 2));
        due("23 six hours are told", f.byTurns(0, 6, 0) >= 0 ? 1 : 0, 1);
        // of a third hour, which is hers: worked out by hand from all 27 ends
        f.carriage(at(8, 8), 0);
        f.place(at(8, 4));
        f.mend(1, 4, at(8, 4));
        due("23 one hour", f.byTurns(11, 1, 0), 3);
        due("23 two hours", f.byTurns(11, 2, 0), 2);
        due("23 three hours: she mends what he did", f.byTurns(11, 3, 0), 1);
        due("23 three hours: none", f.byTurns(11, 3, 1), 1);
    }

    private static void p24drawn() {
        CoachmenFace f = new CoachmenFace();
        due("24 nothing", f.drawn(1, 101, -1), 0);
        due("24 n 0", f.drawn(1, 1, -1), BAD);
        due("24 n 31", f.drawn(1, 3101, -1), BAD);
        due("24 m 0", f.drawn(1, 100, -1), BAD);
        due("24 m 41", f.drawn(1, 141, -1), BAD);
        due("24 below", f.drawn(1, -101, -1), BAD);
        due("24 most", f.drawn(1, 3040, -1), 0);
        due("24 place below", f.drawn(1, 101, -2), BAD);
        due("24 place above", f.drawn(1, 101, 0), BAD);
        f.carriage(at(8, 8), 2);
        f.carriage(at(8, 8), 2);
        f.place(at(8, 8));
        f.place(at(9, 9));
        f.mend(0, 6, 0);
        // behind one hour a carriage is at (9, 7), (9, 8) or (9, 9), by the draw
        int seed = 77;
        int z = seed;
        int at9 = 0;
        int years = 0;
        for (int year = 0; year < 30; year++) {
            boolean any = false;
            for (int k = 0; k < 2; k++) {
                z = z * 1103515245 + 12345;
                if ((z >>> 8) % 3 == 2) {
                    at9++;
                    any = true;
                }
            }
            years += any ? 1 : 0;
        }
        due("24 one by one", f.drawn(seed, 3001, 1), at9);
        due("24 nowhere else", f.drawn(seed, 3001, 0), 0);
        due("24 places", f.drawn(seed, 3001, -1), years);
        due("24 it was not all or none", at9 > years && years > 0 && years < 30 ? 1 : 0, 1);
        f.mend(0, 6, 5);
        due("24 all near", f.drawn(MIN, 3001, 1), 60);
        due("24 both places", f.drawn(MAX, 3001, -1), 60);
        due("24 nothing has moved", f.of(0, 0), at(8, 8));
    }

    private static void p25hour() {
        CoachmenFace f = new CoachmenFace();
        due("25 without carriages", f.hour(), 1);
        f.carriage(at(8, 8), 2);
        f.carriage(at(0, 0), 7);
        f.mend(0, 3, 0);
        f.mend(1, 2, 2);
        due("25 second", f.hour(), 2);
        due("25 turned, went", f.of(0, 0), at(9, 9));
        due("25 way", f.of(0, 1), 3);
        due("25 shoe stays 0", f.of(0, 3), 0);
        due("25 round", f.of(1, 0), at(2, 2));
        due("25 round: way", f.of(1, 1), 3);
        due("25 shoe", f.of(1, 3), 8);
        f.mend(0, 8, 98);
        due("25 to 99", f.hour(), 99);
        due("25 99 stays", f.hour(), 99);
        due("25 hours led go on", f.led(0), 4);
        // each carriage is asked by the hour as it begins
        f.mend(0, 8, 5);
        tell(f, "h=5?1;0");
        int first = f.of(0, 1);
        int second = f.of(1, 1);
        f.hour();
        due("25 the first by 5", f.of(0, 1), first + 1 & 7);
        due("25 the second by 5, too", f.of(1, 1), second + 1 & 7);
    }

    private static void p26rein() {
        CoachmenFace f = new CoachmenFace();
        due("26 none", f.rein(0, 0), BAD);
        f.carriage(0, 7);
        due("26 by below", f.rein(0, -1), BAD);
        due("26 by above", f.rein(0, 2), BAD);
        due("26 below", f.rein(-1, 0), BAD);
        due("26 more, behind 7", f.rein(0, 1), 0);
        due("26 less, ahead of 0", f.rein(0, 0), 7);
        due("26 less", f.rein(0, 0), 6);
        due("26 way", f.of(0, 1), 6);
        due("26 led", f.led(2), 3);
        due("26 no change", f.count(3), 0);
    }

    private static void p27shoe() {
        CoachmenFace f = new CoachmenFace();
        due("27 none", f.shoe(0), BAD);
        f.carriage(0, 7);
        due("27 below", f.shoe(-1), BAD);
        f.mend(0, 3, 4);
        due("27 till then", f.shoe(0), 4);
        due("27 shod", f.of(0, 3), 9);
        due("27 again", f.shoe(0), 9);
        due("27 led", f.led(3), 2);
        due("27 no change", f.count(3), 1);
    }

    private static void p28buys() {
        CoachmenFace f = new CoachmenFace();
        due("28 none", f.buys(0), BAD);
        f.place(0);
        due("28 below", f.buys(-1), BAD);
        due("28 till then", f.buys(0), 1);
        due("28 worth", f.of(0, 5), 9);
        due("28 again", f.buys(0), 9);
        due("28 no change", f.count(3), 0);
    }

    private static void p29led() {
        CoachmenFace f = new CoachmenFace();
        due("29 below", f.led(-1), BAD);
        due("29 above", f.led(5), BAD);
        f.carriage(at(15, 0), 1);
        f.carriage(at(8, 8), 2);
        f.mend(1, 2, 3);
        f.place(at(11, 9));
        f.place(at(12, 8));
        f.place(at(0, 15));
        f.place(at(14, 0));
        f.hour();
        due("29 hours", f.led(0), 1);
        // the first: 15,0 up and right leaves, down and left goes; so one cell; the second three
        due("29 cells", f.led(1), 4);
        // the second at (11, 8): near 0 and 1; the first at (14, 1): near 3
        due("29 near", f.led(4), 3);
        CoachmenFace g = new CoachmenFace();
        g.carriage(at(0, 0), 1);
        g.mend(0, 2, 4);
        g.place(0);
        g.hour();
        due("29 steps in which it stays", g.led(1), 0);
        due("29 near where it stays", g.led(4), 1);
        g.later(0, 60, 0);
        g.reins(0, 5, -1);
        due("29 thoughts are no deeds", g.led(0), 1);
        due("29 thoughts are no cells", g.led(1), 0);
    }

    private static void p30image() {
        CoachmenFace f = new CoachmenFace();
        due("30 at first", f.image(), 0);
        f.hour();
        f.mend(0, 8, 50);
        f.hour();
        due("30 hours led, not the hour", f.image(), 2);
    }

    private static void p31back() {
        CoachmenFace f = new CoachmenFace();
        due("31 none", f.back(), STATE);
        f.carriage(at(8, 8), 2);
        f.place(at(8, 8));
        f.rein(0, 1);
        f.shoe(0);
        f.hour();
        f.image();
        int[] led = new int[5];
        for (int what = 0; what < 5; what++) {
            led[what] = f.led(what);
        }
        f.hour();
        f.rein(0, 0);
        f.shoe(0);
        f.carriage(at(3, 3), 4);
        f.hour();
        f.mend(0, 2, 4);
        f.mend(0, 6, 3);
        f.mend(0, 7, 3);
        f.mend(0, 4, 7);
        f.buys(0);
        int changes = f.count(3);
        due("31 back", f.back(), 1);
        due("31 cell", f.of(0, 0), at(9, 9));
        due("31 way", f.of(0, 1), 3);
        due("31 shoe", f.of(0, 3), 8);
        due("31 hour", f.of(0, 8), 1);
        for (int what = 0; what < 5; what++) {
            due("31 led " + what, f.led(what), led[what]);
        }
        due("31 came since: cell", f.of(1, 0), at(3, 4));
        due("31 came since: shoe", f.of(1, 3), 8);
        due("31 pace is not of it", f.of(0, 2), 4);
        due("31 reach is not of it", f.of(0, 6), 3);
        due("31 wind is not of it", f.of(0, 7), 3);
        due("31 a place's cell is not of it", f.of(0, 4), 7);
        due("31 worth is not of it", f.of(0, 5), 9);
        due("31 changes are not of it", f.count(3), changes);
        f.hour();
        due("31 once more", f.back(), 1);
        due("31 once more: cell", f.of(0, 0), at(9, 9));
    }

    private static void p32undo() {
        CoachmenFace f = new CoachmenFace();
        due("32 none", f.undo(), STATE);
        f.carriage(10, 1);
        f.place(20);
        due("32 what comes is no change", f.undo(), STATE);
        int[] v = {5, 5, 3, 5, 5, 5, 3, 3, 5};
        int[] first = {10, 1, 1, 9, 20, 1, 1, 0, 0};
        for (int what = 0; what <= 8; what++) {
            f.mend(0, what, v[what]);
            f.mend(0, what, v[what]);
        }
        due("32 the same is none", f.count(3), 9);
        f.mend(0, 0, 256);
        due("32 bad is none", f.count(3), 9);
        for (int what = 8; what >= 0; what--) {
            due("32 still", f.undo(), what);
            due("32 what it was " + what, f.of(0, what), first[what]);
        }
        due("32 no more", f.undo(), STATE);
        for (int i = 1; i <= 41; i++) {
            f.mend(0, 0, i);
        }
        due("32 forty are kept", f.count(3), 40);
        for (int i = 39; i >= 0; i--) {
            due("32 of forty", f.undo(), i);
            due("32 of forty: what it was", f.of(0, 0), i + 1);
        }
        due("32 no more of forty", f.undo(), STATE);
        due("32 the oldest stays", f.of(0, 0), 1);
        // deeds are none: what was ahead of the change comes, whatever was done since
        f.mend(0, 0, at(8, 8));
        f.hour();
        due("32 over a deed", f.undo(), 0);
        due("32 over a deed: cell", f.of(0, 0), 1);
        due("32 the deed's hour stays", f.of(0, 8), 1);
    }

    private static void p33redo() {
        CoachmenFace f = new CoachmenFace();
        due("33 none", f.redo(), STATE);
        f.carriage(10, 1);
        f.mend(0, 0, 20);
        f.mend(0, 0, 30);
        f.mend(0, 1, 4);
        due("33 none undone", f.redo(), STATE);
        f.undo();
        f.undo();
        due("33 may still", f.redo(), 1);
        due("33 done again", f.of(0, 0), 30);
        due("33 last", f.redo(), 0);
        due("33 last: way", f.of(0, 1), 4);
        due("33 no more", f.redo(), STATE);
        due("33 all may be undone", f.count(3), 3);
        f.undo();
        f.mend(0, 0, 30);
        due("33 the same number is no change behind", f.redo(), 0);
        f.undo();
        f.rein(0, 1);
        f.hour();
        due("33 deeds are no changes behind", f.redo(), 0);
        due("33 behind deeds: way", f.of(0, 1), 4);
        f.undo();
        f.mend(0, 3, 2);
        due("33 another came behind", f.redo(), STATE);
        due("33 the other may be undone", f.count(3), 3);
    }

    private static void p34body() {
        CoachmenFace f = new CoachmenFace();
        due("34 below", f.body(-1), BAD);
        due("34 above", f.body(8), BAD);
        for (int n = 0; n < 50; n++) {
            due("34 number", f.body(n % 8), n);
        }
        due("34 full", f.body(0), FULL);
        due("34 bad ahead of full", f.body(8), BAD);
        due("34 fifty", f.count(4), 50);
    }

    private static void p35act() {
        CoachmenFace f = new CoachmenFace();
        due("35 no body", f.act(0, 0, 5), 0);
        for (int kind = 0; kind < 8; kind++) {
            f.body(kind);
        }
        due("35 below", f.act(-1, 0, 5), 0);
        due("35 above", f.act(8, 0, 5), 0);
        due("35 act below", f.act(0, -1, 5), 0);
        due("35 act above", f.act(0, 4, 5), 0);
        // by kinds, numbers 0 .. 7, x 10: faces, drives, weeps, tells
        int[][] due = {
            {10, 20, 10, 20 - (1 ^ 0)},
            {14, 28, 11, 28 - (1 ^ 1)},
            {12, -24, 8, -24 - (1 ^ 2)},
            {13, -28, 27, -28 - 3 * (1 ^ 3)},
            {17, 34, 14, 34 - (1 ^ 4) ^ 5},
            {15, -32, 3 * (10 ^ 5) - 7, -32 - (3 * (1 ^ 5) - 7) + 1},
            {32, 64, 12, 64 - (1 ^ 6)},
            {33, 66 + (2 ^ 7), 10 ^ 7, 66 + (2 ^ 7) - (1 ^ 7)},
        };
        for (int kind = 0; kind < 8; kind++) {
            for (int act = 0; act < 4; act++) {
                due("35 kind " + kind + " act " + act, f.act(kind, act, 10), due[kind][act]);
            }
        }
        due("35 wraps", f.act(0, 1, MAX), MAX * 2);
        due("35 wraps above", f.act(1, 0, MAX), MAX + 1 + 3);
        due("35 wraps within", f.act(3, 1, MAX), -((MAX + 1 + 3) * 2));
        // the same kind by another number
        f.body(4);
        due("35 by number", f.act(8, 0, 10), 10 + 8 + 3);
    }

    private static void traceIs(CoachmenFace f, int body, int act, int... numbers) {
        f.act(body, act, 3);
        due("36 ran", f.count(5), numbers.length);
        for (int i = 0; i < numbers.length; i++) {
            due("36 body " + body + " act " + act + " at " + i, f.trace(i), numbers[i]);
        }
        due("36 behind the last", f.trace(numbers.length), BAD);
        due("36 below", f.trace(-1), BAD);
    }

    private static void p36trace() {
        CoachmenFace f = new CoachmenFace();
        for (int kind = 0; kind < 8; kind++) {
            f.body(kind);
        }
        traceIs(f, 0, 0, 1);
        traceIs(f, 0, 1, 10, 1);
        traceIs(f, 0, 2, 11);
        traceIs(f, 0, 3, 2, 10, 1, 11);
        traceIs(f, 1, 0, 20, 1);
        traceIs(f, 1, 3, 2, 10, 20, 1, 11);
        traceIs(f, 2, 3, 2, 30, 10, 1, 11);
        traceIs(f, 3, 3, 2, 41, 30, 10, 1, 40, 11);
        traceIs(f, 4, 3, 50, 2, 10, 20, 1, 11);
        traceIs(f, 5, 2, 60, 40, 11, 1);
        traceIs(f, 5, 3, 61, 2, 41, 30, 10, 1, 60, 40, 11, 1);
        traceIs(f, 6, 1, 10, 70, 1);
        traceIs(f, 7, 3, 2, 80, 10, 81, 70, 1, 11, 11);
        f.act(8, 0, 0);
        due("36 no trace", f.trace(0), BAD);
        due("36 none ran", f.count(5), 0);
        f.act(0, 0, 0);
        f.act(0, 4, 0);
        due("36 no trace of no act", f.trace(0), BAD);
        due("36 far above", f.trace(MAX), BAD);
    }

    private static void p37keep() {
        CoachmenFace f = new CoachmenFace();
        due("37 shelf below", f.keep(-1, -1), BAD);
        due("37 shelf above", f.keep(6, -1), BAD);
        due("37 no such body", f.keep(0, 0), BAD);
        f.body(3);
        f.body(4);
        due("37 below", f.keep(0, -2), BAD);
        due("37 above", f.keep(0, 2), BAD);
        due("37 a body", f.keep(5, 1), 1);
        due("37 its kind", f.taken(5, 0), 4);
        due("37 bad changes nothing", f.keep(5, 9), BAD);
        due("37 still there", f.taken(5, 0), 4);
        due("37 nothing", f.keep(5, -1), 1);
        due("37 nothing there", f.taken(5, 0), NOTHING);
        f.row(5, 0, 3);
        f.keep(5, 0);
        due("37 over a row", f.taken(5, 0), 3);
        f.row(5, 0, 3);
        f.keep(5, -1);
        due("37 a row is gone", f.put(5, 0, 1), NOTHING);
    }

    private static void p38row() {
        CoachmenFace f = new CoachmenFace();
        due("38 shelf below", f.row(-1, 0, 1), BAD);
        due("38 shelf above", f.row(6, 0, 1), BAD);
        due("38 sort below", f.row(0, -1, 1), BAD);
        due("38 sort above", f.row(0, 5, 1), BAD);
        due("38 too long", f.row(0, 0, 61), BAD);
        due("38 below 0", f.row(0, 0, -1), SIZE);
        due("38 far below 0", f.row(0, 0, MIN), SIZE);
        due("38 bad ahead of the size", f.row(0, 5, -1), BAD);
        due("38 bad shelf ahead of the size", f.row(6, 0, -1), BAD);
        due("38 nothing came", f.put(0, 0, 1), NOTHING);
        for (int sort = 0; sort <= 4; sort++) {
            due("38 sort " + sort, f.row(sort, sort, 60), 1);
            due("38 at first", f.element(sort, 59), 0);
        }
        due("38 empty", f.row(5, 2, 0), 1);
        due("38 empty has none", f.put(5, 0, 1), NO_PLACE);
        f.put(0, 7, 7);
        f.row(0, 0, 60);
        due("38 anew is 0 again", f.element(0, 7), 0);
        f.put(0, 7, 7);
        due("38 refused", f.row(0, 0, -1), SIZE);
        due("38 refused changes nothing", f.element(0, 7), 7);
    }

    private static void p39put() {
        CoachmenFace f = new CoachmenFace();
        due("39 shelf below", f.put(-1, 0, 0), BAD);
        due("39 shelf above", f.put(6, 0, 0), BAD);
        due("39 nothing", f.put(0, 0, 0), NOTHING);
        due("39 nothing ahead of the place", f.put(0, -1, 0), NOTHING);
        f.body(0);
        f.keep(0, 0);
        due("39 a body", f.put(0, 0, 0), KIND);
        due("39 a body ahead of the place", f.put(0, 99, 0), KIND);
        long[] in = {0, 1, -1, 127, 128, 255, 256, 32767, 32768, 65536, 2147483647L, 2147483648L, 4294967296L, Long.MAX_VALUE, LMIN};
        for (int sort = 0; sort <= 4; sort++) {
            f.row(0, sort, 2);
            due("39 below", f.put(0, -1, 5), NO_PLACE);
            due("39 above", f.put(0, 2, 5), NO_PLACE);
            due("39 far above", f.put(0, MAX, 5), NO_PLACE);
            for (long v : in) {
                long kept = sort == 0 ? (byte) v : sort == 1 ? (short) v : sort == 2 ? (int) v : sort == 3 ? v : v != 0 ? 1 : 0;
                due("39 put", f.put(0, 1, v), 1);
                due("39 sort " + sort + " of " + v, f.element(0, 1), kept);
            }
            due("39 the other element", f.element(0, 0), 0);
        }
    }

    private static void p40element() {
        CoachmenFace f = new CoachmenFace();
        due("40 shelf below", f.element(-1, 0), LMIN);
        due("40 shelf above", f.element(6, 0), LMIN);
        due("40 nothing", f.element(0, 0), LMIN);
        f.body(0);
        f.keep(0, 0);
        due("40 a body", f.element(0, 0), LMIN);
        f.row(0, 3, 2);
        due("40 below", f.element(0, -1), LMIN);
        due("40 above", f.element(0, 2), LMIN);
        f.put(0, 1, -11);
        due("40 at", f.element(0, 1), -11);
    }

    private static void p41shift() {
        CoachmenFace f = new CoachmenFace();
        f.body(0);
        due("41 shelf", f.shift(-1, 0, 0, 0, 0), BAD);
        due("41 other", f.shift(0, 0, 6, 0, 0), BAD);
        due("41 nothing", f.shift(0, 0, 1, 0, 0), NOTHING);
        f.keep(0, 0);
        due("41 nothing there, a body here", f.shift(0, 0, 1, 0, 0), NOTHING);
        due("41 nothing here, a body there", f.shift(1, 0, 0, 0, 0), NOTHING);
        due("41 a body", f.shift(0, 0, 0, 0, 0), KIND);
        f.row(1, 0, 5);
        due("41 a body and a row", f.shift(0, 0, 1, 0, 0), KIND);
        due("41 a row and a body", f.shift(1, 0, 0, 0, 0), KIND);
        f.row(2, 1, 5);
        due("41 unlike sorts", f.shift(1, 0, 2, 0, 1), KIND);
        due("41 unlike sorts ahead of the place", f.shift(1, -1, 2, 0, 1), KIND);
        fill(f, 1, 0, 1, 2, 3, 4, 5);
        f.row(2, 0, 3);
        due("41 n below 0", f.shift(1, 0, 2, 0, -1), NO_PLACE);
        due("41 i below 0", f.shift(1, -1, 2, 0, 1), NO_PLACE);
        due("41 j below 0", f.shift(1, 0, 2, -1, 1), NO_PLACE);
        due("41 beyond the first", f.shift(1, 4, 2, 0, 2), NO_PLACE);
        due("41 beyond the other", f.shift(1, 0, 2, 2, 2), NO_PLACE);
        due("41 far", f.shift(1, MAX, 2, 0, MAX), NO_PLACE);
        due("41 far there", f.shift(1, 0, 2, MAX, 1), NO_PLACE);
        due("41 none at the ends", f.shift(1, 5, 2, 3, 0), 0);
        due("41 none behind the end", f.shift(1, 6, 2, 3, 0), NO_PLACE);
        due("41 none behind the other's end", f.shift(1, 5, 2, 4, 0), NO_PLACE);
        due("41 refused changes nothing", f.element(2, 0), 0);
        due("41 to another", f.shift(1, 1, 2, 0, 3), 3);
        due("41 first", f.element(2, 0), 2);
        due("41 last", f.element(2, 2), 4);
        due("41 onward in one", f.shift(1, 0, 1, 1, 4), 4);
        long[] onward = {1, 1, 2, 3, 4};
        for (int i = 0; i < 5; i++) {
            due("41 onward " + i, f.element(1, i), onward[i]);
        }
        fill(f, 1, 0, 1, 2, 3, 4, 5);
        due("41 backward in one", f.shift(1, 1, 1, 0, 4), 4);
        long[] backward = {2, 3, 4, 5, 5};
        for (int i = 0; i < 5; i++) {
            due("41 backward " + i, f.element(1, i), backward[i]);
        }
    }

    private static void p42taken() {
        CoachmenFace f = new CoachmenFace();
        due("42 shelf", f.taken(6, 0), BAD);
        due("42 shelf below", f.taken(-1, 0), BAD);
        due("42 kind below", f.taken(0, -1), BAD);
        due("42 kind above", f.taken(0, 8), BAD);
        due("42 nothing", f.taken(0, 0), NOTHING);
        f.row(0, 0, 1);
        due("42 a row", f.taken(0, 0), KIND);
        int[] above = {-1, 0, 0, 2, 1, 3, 0, 6};
        for (int kind = 0; kind < 8; kind++) {
            f.body(kind);
            f.keep(1, kind);
            for (int k = 0; k < 8; k++) {
                boolean under = false;
                for (int up = kind; up >= 0; up = above[up]) {
                    under |= up == k;
                }
                due("42 kind " + kind + " for " + k, f.taken(1, k), under ? kind : KIND);
            }
        }
    }

    private static void p43count() {
        CoachmenFace f = new CoachmenFace();
        due("43 below", f.count(-1), BAD);
        due("43 above", f.count(6), BAD);
        f.carriage(0, 0);
        f.carriage(0, 0);
        f.place(0);
        f.feed(1);
        f.feed(1);
        f.feed(1);
        f.mend(0, 0, 5);
        f.mend(0, 0, 6);
        f.mend(0, 0, 7);
        f.mend(0, 0, 8);
        f.undo();
        f.body(0);
        f.act(0, 3, 1);
        int[] due = {2, 1, 3, 3, 1, 4};
        for (int what = 0; what < 6; what++) {
            due("43 what " + what, f.count(what), due[what]);
        }
    }
}
