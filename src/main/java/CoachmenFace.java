import java.util.Arrays;

/** Carriages that go the way their coachmen face; ../shared/DOC.md says what each call answers. */
public final class CoachmenFace {
    public static final int BAD = -1, NOT = -2, FULL = -3, STATE = -5, VOID = -2000000000;

    private static final int NOTHING_THERE = -11, OTHER_KIND = -12, NO_SUCH_PLACE = -13, SIZE_BELOW_0 = -14;
    private static final int CARRIAGES = 6, PLACES = 8, TAPE = 120, SHELVES = 6, HOURS = 60;

    private final Land land;
    private final Law law;
    private final LawReader reader;
    private final int[] tape;
    private int tapeLength;
    private final Coach[] coaches;
    private final Journeys journeys;
    private final Dinners dinners;
    private final Boxes boxes;
    private final Changes changes;
    private final Deeds deeds;
    private final Shelf[] shelves;
    private final Bodies bodies;

    public CoachmenFace() {
        land = new Land();
        law = new Law();
        reader = new LawReader();
        tape = new int[TAPE];
        coaches = new Coach[CARRIAGES];
        for (int k = 0; k < CARRIAGES; k++) {
            coaches[k] = new Coach(k, land, law);
        }
        journeys = new Journeys(land, coaches);
        dinners = new Dinners(land, coaches, journeys);
        boxes = new Boxes(land, coaches);
        changes = new Changes(land);
        deeds = new Deeds(land, coaches);
        shelves = new Shelf[SHELVES];
        for (int s = 0; s < SHELVES; s++) {
            shelves[s] = new Shelf();
        }
        bodies = new Bodies();
    }

    // ---- carriages, places

    public int carriage(int cell, int way) {
        if (!Land.mayBe(Land.CELL, cell) || !Land.mayBe(Land.WAY, way)) {
            return BAD;
        }
        return land.addCarriage(cell, way, 1);
    }

    public int carriages(int shelf, int i, int n) {
        if (!isShelf(shelf) || !within(n, 1, CARRIAGES)) {
            return BAD;
        }
        Shelf row = shelves[shelf];
        if (row.sort == Shelf.NOTHING) {
            return 0;
        }
        if (row.sort != Shelf.SHORTS) {
            return OTHER_KIND;
        }
        int came = 0;
        int at = i;
        // at is looked at ahead of each three, so it never runs past what an int holds
        while (came < n && at >= 0 && at <= row.length - 3 && comesFrom(row, at)) {
            came++;
            at += 3;
        }
        return came;
    }

    public int place(int cell) {
        return Land.mayBe(Land.SPOT, cell) ? land.addPlace(cell) : BAD;
    }

    public int mend(int number, int what, int v) {
        if (!land.has(number, what) || !Land.mayBe(what, v)) {
            return VOID;
        }
        int was = land.read(number, what);
        if (was != v) {
            changes.note(number, what, was, v);
            land.write(number, what, v);
        }
        return was;
    }

    public int of(int number, int what) {
        return land.has(number, what) ? land.read(number, what) : VOID;
    }

    public int feed(int letter) {
        if (!within(letter, 0, 255)) {
            return BAD;
        }
        if (tapeLength >= TAPE) {
            return FULL;
        }
        tape[tapeLength] = letter;
        tapeLength++;
        return tapeLength;
    }

    public int law() {
        int fault = reader.faultOf(tape, tapeLength);
        tapeLength = 0;
        if (fault != LawReader.NONE) {
            return -100 - fault;
        }
        law.become(reader);
        return 1;
    }

    public int turn(int carriage) {
        if (!land.hasCarriage(carriage)) {
            return VOID;
        }
        Coach coach = coaches[carriage];
        coach.start(land.paces[carriage]);
        return coach.lawBehind(0, land.ways[carriage]);
    }

    // ---- hours in thought

    public int later(int carriage, int n, int what) {
        if (!land.hasCarriage(carriage) || !within(n, 0, HOURS) || !within(what, 0, 2)) {
            return BAD;
        }
        if (what == 2) {
            return Math.max(0, land.shoes[carriage] - n);
        }
        journeys.follow(carriage, n);
        return what == 0 ? journeys.cellBehind(carriage, n) : journeys.wayBehind(carriage, n);
    }

    public int nears(int kp, int n, int what) {
        if (!isPair(kp) || !within(n, 0, HOURS) || !within(what, 0, 1)) {
            return BAD;
        }
        journeys.follow(kp / 10, n);
        int first = journeys.firstNearest(kp / 10, land.spots[kp % 10], n);
        return what == 1 ? first : Land.apart(journeys.cellBehind(kp / 10, first), land.spots[kp % 10]);
    }

    public int passes(int carriage, int n, int what) {
        if (!land.hasCarriage(carriage) || !within(n, 0, HOURS) || !within(what, 0, 1)) {
            return BAD;
        }
        journeys.follow(carriage, n);
        int passed = journeys.placesPassed(carriage, n);
        return what == 0 ? passed : land.worthOf(passed);
    }

    public int meet(int ab) {
        if (!areTwoCarriages(ab)) {
            return BAD;
        }
        journeys.follow(ab / 10, HOURS);
        journeys.follow(ab % 10, HOURS);
        return journeys.firstMeeting(ab / 10, ab % 10);
    }

    public int often(int ab, int n) {
        if (!areTwoCarriages(ab) || !within(n, 0, HOURS)) {
            return BAD;
        }
        journeys.follow(ab / 10, n);
        journeys.follow(ab % 10, n);
        return journeys.meetings(ab / 10, ab % 10, n);
    }

    public int who(int cell, int n) {
        if (!Land.mayBe(Land.CELL, cell) || !within(n, 0, HOURS)) {
            return BAD;
        }
        journeys.followAll(n);
        return journeys.carriagesNear(cell, n);
    }

    public int soonest(int ft, int what) {
        if (!areTwoPlaces(ft) || !within(what, 0, 1)) {
            return BAD;
        }
        journeys.followAll(HOURS);
        return journeys.soonestBetween(land.spots[ft / 10], land.spots[ft % 10], what == 1);
    }

    public int buy(int k, int n, int what) {
        if (!within(k, 1, 3) || !within(n, 0, 30) || !within(what, 0, 1)) {
            return BAD;
        }
        journeys.followAll(n);
        int chosen = journeys.bestHouses(k, n);
        return what == 1 ? chosen : Integer.bitCount(journeys.passersOf(chosen));
    }

    // ---- dined

    public int judge(int shelf, int carriage) {
        if (!isShelf(shelf) || !land.hasCarriage(carriage)) {
            return BAD;
        }
        int refusal = shelves[shelf].refusalAsBytes();
        return refusal != 0 ? refusal : dinners.firstWrongNow(shelves[shelf], carriage);
    }

    public int dined(int shelf, int carriage, int what) {
        if (!isShelf(shelf) || !land.hasCarriage(carriage) || !within(what, 0, 3)) {
            return BAD;
        }
        Shelf row = shelves[shelf];
        int refusal = row.refusalAsBytes();
        if (refusal != 0) {
            return refusal;
        }
        if (what == 0) {
            return dinners.waysThatFit(row, carriage);
        }
        if (what == 3) {
            return dinners.pacesThatFit(row, carriage);
        }
        return dinners.cellsThatFit(row, carriage, what == 2);
    }

    // ---- reins, chances, turns

    public int reins(int kp, int t, int k) {
        if (!isPair(kp) || !within(t, 0, Boxes.REINED_HOURS) || k < -1) {
            return BAD;
        }
        if (k >= t) {
            return NOT;
        }
        int plan = boxes.fewestReins(kp / 10, land.spots[kp % 10], t);
        if (plan == Boxes.NO_PLAN) {
            return NOT;
        }
        return k == -1 ? Boxes.reinsIn(plan) : Boxes.reinAt(plan, k);
    }

    public long chance(int kp, int t, int x, int part) {
        if (!isPair(kp) || !within(t, 0, 8) || !within(x, 0, 12) || !within(part, 0, 1)) {
            return Long.MIN_VALUE;
        }
        return boxes.fraction(boxes.weight(kp, t, x, false), t, part);
    }

    public long mean(int kp, int t, int x, int part) {
        if (!isPair(kp) || !within(t, 0, 8) || !within(x, 0, 12) || !within(part, 0, 1)) {
            return Long.MIN_VALUE;
        }
        return boxes.fraction(boxes.weight(kp, t, x, true), t, part);
    }

    public int byTurns(int kp, int n, int what) {
        if (!isPair(kp) || !within(n, 1, 6) || !within(what, 0, 1)) {
            return BAD;
        }
        return boxes.herBest(kp / 10, land.spots[kp % 10], n, what == 1);
    }

    public int drawn(int seed, int nm, int place) {
        if (nm < 0 || !within(nm / 100, 1, 30) || !within(nm % 100, 1, 40)) {
            return BAD;
        }
        if (place != -1 && !land.hasPlace(place)) {
            return BAD;
        }
        return boxes.byDraws(seed, nm / 100, nm % 100, place);
    }

    // ---- in deed

    public int hour() {
        deeds.passHour();
        return land.hour;
    }

    public int rein(int carriage, int by) {
        if (!land.hasCarriage(carriage) || !within(by, 0, 1)) {
            return BAD;
        }
        return deeds.pullRein(carriage, by == 0 ? -1 : 1);
    }

    public int shoe(int carriage) {
        return land.hasCarriage(carriage) ? deeds.putShoe(carriage) : BAD;
    }

    public int buys(int place) {
        if (!land.hasPlace(place)) {
            return BAD;
        }
        int was = land.worths[place];
        land.worths[place] = 9;
        return was;
    }

    public int led(int what) {
        return within(what, 0, Deeds.LED - 1) ? deeds.done[what] : BAD;
    }

    public int image() {
        return deeds.keepImage();
    }

    public int back() {
        return deeds.layBack();
    }

    public int undo() {
        return changes.takeBack();
    }

    public int redo() {
        return changes.doAgain();
    }

    // ---- acts, shelves

    public int body(int kind) {
        return within(kind, 0, Bodies.KINDS - 1) ? bodies.add(kind) : BAD;
    }

    public int act(int body, int act, int x) {
        bodies.forgetTrace();
        if (!bodies.has(body) || !within(act, 0, Bodies.ACTS - 1)) {
            return 0;
        }
        return bodies.start(body, act, x);
    }

    public int trace(int i) {
        return bodies.traced(i);
    }

    public int keep(int shelf, int body) {
        if (!isShelf(shelf) || body != -1 && !bodies.has(body)) {
            return BAD;
        }
        if (body == -1) {
            shelves[shelf].clear();
        } else {
            shelves[shelf].holdBody(body);
        }
        return 1;
    }

    public int row(int shelf, int sort, int n) {
        if (!isShelf(shelf) || !within(sort, Shelf.BYTES, Shelf.BOOLEANS) || n > Shelf.LONGEST) {
            return BAD;
        }
        if (n < 0) {
            return SIZE_BELOW_0;
        }
        shelves[shelf].holdRow(sort, n);
        return 1;
    }

    public int put(int shelf, int i, long v) {
        int refusal = refusalOfElement(shelf, i);
        if (refusal != 0) {
            return refusal;
        }
        shelves[shelf].store(i, v);
        return 1;
    }

    public long element(int shelf, int i) {
        return refusalOfElement(shelf, i) != 0 ? Long.MIN_VALUE : shelves[shelf].items[i];
    }

    public int shift(int shelf, int i, int other, int j, int n) {
        if (!isShelf(shelf) || !isShelf(other)) {
            return BAD;
        }
        Shelf from = shelves[shelf];
        Shelf to = shelves[other];
        if (from.sort == Shelf.NOTHING || to.sort == Shelf.NOTHING) {
            return NOTHING_THERE;
        }
        if (from.sort == Shelf.BODY || from.sort != to.sort) {
            return OTHER_KIND;
        }
        if (!from.hasRange(i, n) || !to.hasRange(j, n)) {
            return NO_SUCH_PLACE;
        }
        System.arraycopy(from.items, i, to.items, j, n);
        return n;
    }

    public int taken(int shelf, int k) {
        if (!isShelf(shelf) || !within(k, 0, Bodies.KINDS - 1)) {
            return BAD;
        }
        Shelf held = shelves[shelf];
        if (held.sort == Shelf.NOTHING) {
            return NOTHING_THERE;
        }
        if (held.sort != Shelf.BODY) {
            return OTHER_KIND;
        }
        int kind = bodies.kindOf(held.body);
        return Bodies.isOrUnder(kind, k) ? kind : OTHER_KIND;
    }

    public int count(int what) {
        switch (what) {
            case 0: return land.carriages;
            case 1: return land.places;
            case 2: return tapeLength;
            case 3: return changes.undoable;
            case 4: return bodies.kept;
            case 5: return bodies.ran;
            default: return BAD;
        }
    }

    // ---- what the calls ask of their arguments

    private static boolean within(int v, int least, int most) {
        return v >= least && v <= most;
    }

    private static boolean isShelf(int shelf) {
        return within(shelf, 0, SHELVES - 1);
    }

    private boolean isPair(int kp) {
        return kp >= 0 && land.hasCarriage(kp / 10) && land.hasPlace(kp % 10);
    }

    private boolean areTwoCarriages(int ab) {
        return ab >= 0 && land.hasCarriage(ab / 10) && land.hasCarriage(ab % 10) && ab / 10 != ab % 10;
    }

    private boolean areTwoPlaces(int ft) {
        return ft >= 0 && land.hasPlace(ft / 10) && land.hasPlace(ft % 10) && ft / 10 != ft % 10;
    }

    private boolean comesFrom(Shelf row, int at) {
        int cell = (int) row.items[at];
        int way = (int) row.items[at + 1];
        int pace = (int) row.items[at + 2];
        return Land.mayBe(Land.CELL, cell) && Land.mayBe(Land.WAY, way) && Land.mayBe(Land.PACE, pace)
            && land.addCarriage(cell, way, pace) != FULL;
    }

    private int refusalOfElement(int shelf, int i) {
        if (!isShelf(shelf)) {
            return BAD;
        }
        Shelf held = shelves[shelf];
        if (held.sort == Shelf.NOTHING) {
            return NOTHING_THERE;
        }
        if (held.sort == Shelf.BODY) {
            return OTHER_KIND;
        }
        return within(i, 0, held.length - 1) ? 0 : NO_SUCH_PLACE;
    }

    /** Where all is now, with the numbers that mend() may change. */
    private static final class Land {
        static final int CELL = 0, WAY = 1, PACE = 2, SHOE = 3, SPOT = 4, WORTH = 5, REACH = 6, WIND = 7, HOUR = 8;
        static final int FULL_SHOE = 9, LAST_HOUR = 99;
        private static final int[] LEAST = {0, 0, 1, 0, 0, 0, 0, -3, 0};
        private static final int[] MOST = {255, 7, 4, 9, 255, 9, 5, 3, 99};

        final int[] cells = new int[CARRIAGES];
        final int[] ways = new int[CARRIAGES];
        final int[] paces = new int[CARRIAGES];
        final int[] shoes = new int[CARRIAGES];
        int carriages;
        final int[] spots = new int[PLACES];
        final int[] worths = new int[PLACES];
        int places;
        int reach = 1;
        int wind;
        int hour;

        static boolean mayBe(int what, int v) {
            return within(what, CELL, HOUR) && within(v, LEAST[what], MOST[what]);
        }

        static int apart(int a, int b) {
            return Math.max(Math.abs((a & 15) - (b & 15)), Math.abs((a >> 4) - (b >> 4)));
        }

        boolean near(int a, int b) {
            return apart(a, b) <= reach;
        }

        boolean hasCarriage(int k) {
            return k >= 0 && k < carriages;
        }

        boolean hasPlace(int p) {
            return p >= 0 && p < places;
        }

        int addCarriage(int cell, int way, int pace) {
            if (carriages >= CARRIAGES) {
                return FULL;
            }
            cells[carriages] = cell;
            ways[carriages] = way;
            paces[carriages] = pace;
            shoes[carriages] = FULL_SHOE;
            carriages++;
            return carriages - 1;
        }

        int addPlace(int cell) {
            if (places >= PLACES) {
                return FULL;
            }
            spots[places] = cell;
            worths[places] = 1;
            places++;
            return places - 1;
        }

        boolean has(int number, int what) {
            if (within(what, CELL, SHOE)) {
                return hasCarriage(number);
            }
            if (within(what, SPOT, WORTH)) {
                return hasPlace(number);
            }
            return within(what, REACH, HOUR) && number == 0;
        }

        /** Only for what has() says is there. */
        int read(int number, int what) {
            switch (what) {
                case CELL: return cells[number];
                case WAY: return ways[number];
                case PACE: return paces[number];
                case SHOE: return shoes[number];
                case SPOT: return spots[number];
                case WORTH: return worths[number];
                case REACH: return reach;
                case WIND: return wind;
                default: return hour;
            }
        }

        /** Only for what has() says is there. */
        void write(int number, int what, int v) {
            switch (what) {
                case CELL: cells[number] = v; break;
                case WAY: ways[number] = v; break;
                case PACE: paces[number] = v; break;
                case SHOE: shoes[number] = v; break;
                case SPOT: spots[number] = v; break;
                case WORTH: worths[number] = v; break;
                case REACH: reach = v; break;
                case WIND: wind = v; break;
                default: hour = v; break;
            }
        }

        int placesNear(int cell) {
            int bits = 0;
            for (int p = 0; p < places; p++) {
                if (near(cell, spots[p])) {
                    bits |= 1 << p;
                }
            }
            return bits;
        }

        int worthOf(int placeBits) {
            int sum = 0;
            for (int p = 0; p < places; p++) {
                if ((placeBits >> p & 1) == 1) {
                    sum += worths[p];
                }
            }
            return sum;
        }
    }

    /** The law as it is worked out: numbers as they are, all else as the byte it was told by, less than 0. */
    private static final class Law {
        static final int NEGATE = -'_', ASKS = -'?', LINE_ENDS = -';';

        private final int[] code = new int[TAPE];
        private int size;
        private final int[] stack = new int[TAPE];
        private int wind, shoe, hour, way, carriage, pace;

        void become(LawReader told) {
            System.arraycopy(told.code, 0, code, 0, told.size);
            size = told.size;
        }

        int gives(int windNow, int shoeThen, int hourThen, int wayThen, int number, int paceNow) {
            if (size == 0) {
                return shoeThen == 0 ? 1 : 0;
            }
            wind = windNow;
            shoe = shoeThen;
            hour = hourThen;
            way = wayThen;
            carriage = number;
            pace = paceNow;
            int top = 0;
            boolean counts = true;
            for (int i = 0; i < size && !(counts && code[i] == LINE_ENDS); i++) {
                int c = code[i];
                if (c == LINE_ENDS || c == ASKS) {
                    counts = c == LINE_ENDS || valueAt(top) != 0;
                    top = 0;
                } else if (counts) {
                    top = work(c, top);
                }
            }
            return counts ? Math.max(-1, Math.min(1, valueAt(top))) : 0;
        }

        private int valueAt(int top) {
            return within(top, 1, TAPE) ? stack[top - 1] : 0;
        }

        private int work(int c, int top) {
            if (c >= 0 || isName(-c)) {
                if (top < TAPE) {
                    stack[top] = c >= 0 ? c : named(-c);
                }
                return top + 1;
            }
            if (c == NEGATE || c == -'!') {
                if (within(top, 1, TAPE)) {
                    int v = stack[top - 1];
                    stack[top - 1] = c == NEGATE ? -v : v == 0 ? 1 : 0;
                }
                return top;
            }
            if (within(top, 2, TAPE)) {
                stack[top - 2] = joined(-c, stack[top - 2], stack[top - 1]);
            }
            return top - 1;
        }

        static boolean isName(int letter) {
            return letter == 'w' || letter == 's' || letter == 'h'
                || letter == 'd' || letter == 'k' || letter == 'p';
        }

        private int named(int letter) {
            switch (letter) {
                case 'w': return wind;
                case 's': return shoe;
                case 'h': return hour;
                case 'd': return way;
                case 'k': return carriage;
                default: return pace;
            }
        }

        private static int joined(int sign, int a, int b) {
            switch (sign) {
                case '|': return a != 0 || b != 0 ? 1 : 0;
                case '&': return a != 0 && b != 0 ? 1 : 0;
                case '<': return a < b ? 1 : 0;
                case '=': return a == b ? 1 : 0;
                case '>': return a > b ? 1 : 0;
                case '+': return a + b;
                case '-': return a - b;
                case '*': return a * b;
                case '/': return b == 0 ? 0 : a / b;
                case '%': return b == 0 ? 0 : a % b;
                default: return 0;
            }
        }
    }

    /**
     * Reads a tape from the first byte to the last and never looks back, so that the byte at which it
     * stops is the first with which no text goes on; it writes operands ahead of their signs.
     */
    private static final class LawReader {
        static final int NONE = -1;
        private static final int MOST_OPEN = 6, MOST_DIGITS = 4, COMPARES = 3;

        final int[] code = new int[TAPE];
        int size;
        private final int[] waiting = new int[TAPE];
        private int waits;
        private int open;
        private int brackets;
        private boolean wantsOperand;
        private boolean asked;

        int faultOf(int[] text, int length) {
            size = 0;
            waits = 0;
            open = 0;
            brackets = 0;
            wantsOperand = true;
            asked = false;
            int i = 0;
            while (i < length && i < text.length) {
                int read = wantsOperand ? operand(text, i, length) : sign(text[i]);
                if (read <= 0) {
                    return i;
                }
                i += read;
            }
            if (wantsOperand || brackets > 0) {
                return length;
            }
            writeWaiting(1);
            return NONE;
        }

        private int operand(int[] text, int i, int length) {
            int c = text[i];
            if (isDigit(c)) {
                return number(text, i, length);
            }
            if (Law.isName(c)) {
                write(-c);
                endOperand();
                return 1;
            }
            if (c != '(' && c != '!' && c != '-' || open >= MOST_OPEN) {
                return 0;
            }
            open++;
            if (c == '(') {
                brackets++;
            }
            await(c == '-' ? -Law.NEGATE : c);
            return 1;
        }

        private int number(int[] text, int i, int length) {
            int digits = 0;
            int v = 0;
            while (digits < MOST_DIGITS && i + digits < length && isDigit(text[i + digits])) {
                v = 10 * v + text[i + digits] - '0';
                digits++;
            }
            write(v);
            endOperand();
            return digits;
        }

        private int sign(int c) {
            if (c == ')') {
                return closeBracket();
            }
            if (c == '?' || c == ';') {
                return endPart(c);
            }
            int rank = rankOf(c);
            if (rank == 0) {
                return 0;
            }
            writeWaiting(rank == COMPARES ? rank + 1 : rank);
            if (rank == COMPARES && rankOf(lastWaiting()) == COMPARES) {
                return 0;
            }
            await(c);
            wantsOperand = true;
            return 1;
        }

        private int closeBracket() {
            if (brackets == 0) {
                return 0;
            }
            writeWaiting(1);
            waits--;
            open--;
            brackets--;
            endOperand();
            return 1;
        }

        private int endPart(int c) {
            if (brackets > 0 || c == '?' && asked) {
                return 0;
            }
            writeWaiting(1);
            write(-c);
            asked = c == '?';
            wantsOperand = true;
            return 1;
        }

        /** What stands ahead of one operand alone ends with it. */
        private void endOperand() {
            while (waits > 0 && (lastWaiting() == '!' || lastWaiting() == -Law.NEGATE)) {
                write(-lastWaiting());
                waits--;
                open--;
            }
            wantsOperand = false;
        }

        /** Writes the signs that bind at least so much, down to an open bracket. */
        private void writeWaiting(int rank) {
            while (waits > 0 && rankOf(lastWaiting()) >= rank) {
                write(-lastWaiting());
                waits--;
            }
        }

        private int lastWaiting() {
            return within(waits, 1, TAPE) ? waiting[waits - 1] : 0;
        }

        private void await(int c) {
            if (waits < TAPE) {
                waiting[waits] = c;
                waits++;
            }
        }

        private void write(int c) {
            if (size < TAPE) {
                code[size] = c;
                size++;
            }
        }

        private static boolean isDigit(int c) {
            return c >= '0' && c <= '9';
        }

        private static int rankOf(int c) {
            switch (c) {
                case '|': return 1;
                case '&': return 2;
                case '<': case '=': case '>': return COMPARES;
                case '+': case '-': return 4;
                case '*': case '/': case '%': return 5;
                default: return 0;
            }
        }
    }

    /**
     * A carriage in thought. Its stand is 8 times its cell, and its way; shoe and hour hang on how many
     * hours have passed alone, so what the law gives is kept by hours and ways once it was asked.
     */
    private static final class Coach {
        private static final int[] RIGHT = {0, 1, 1, 1, 0, -1, -1, -1};
        private static final int[] DOWN = {-1, -1, 0, 1, 1, 1, 0, -1};

        private final int number;
        private final Land land;
        private final Law law;
        private final int[] given = new int[8 * HOURS];
        private int pace;
        private int starts;
        int gone;

        Coach(int number, Land land, Law law) {
            this.number = number;
            this.land = land;
            this.law = law;
        }

        /** Asked ahead of the hours of each call, since all the law hangs on may have changed. */
        void start(int atPace) {
            pace = atPace;
            starts++;
        }

        int standNow() {
            return 8 * land.cells[number] + land.ways[number];
        }

        int lawBehind(int t, int way) {
            int i = 8 * t + way;
            if (i < 0 || i >= given.length) {
                return 0;
            }
            // with the number of its start, so that what an earlier one kept is known without clearing it
            if (given[i] >> 2 != starts) {
                int shoe = Math.max(0, land.shoes[number] - t);
                int hour = Math.min(Land.LAST_HOUR, land.hour + t);
                given[i] = 4 * starts + 1 + law.gives(land.wind, shoe, hour, way, number, pace);
            }
            return (given[i] & 3) - 1;
        }

        /** Where it stands an hour on, t hours from now on, turned by so much beyond the law. */
        int next(int stand, int t, int beyond) {
            int way = stand + lawBehind(t, stand & 7) + beyond & 7;
            int x = stand >> 3 & 15;
            int y = stand >> 7;
            gone = 0;
            for (int step = 0; step < pace; step++) {
                if (!onLand(x + RIGHT[way], y + DOWN[way])) {
                    way = way + 4 & 7;
                    if (!onLand(x + RIGHT[way], y + DOWN[way])) {
                        continue;
                    }
                }
                x += RIGHT[way];
                y += DOWN[way];
                gone++;
            }
            return 128 * y + 8 * x + way;
        }

        /** -1 and 16 both have a bit beyond the lowest four; asked so often that one test counts. */
        private static boolean onLand(int x, int y) {
            return ((x | y) & ~15) == 0;
        }
    }

    /** Where carriages are behind each hour, and what they are near there. */
    private static final class Journeys {
        private static final int SPAN = HOURS + 1;

        private final Land land;
        private final Coach[] coaches;
        private final int[] stands = new int[CARRIAGES * SPAN];
        private final int[] passers = new int[PLACES];

        Journeys(Land land, Coach[] coaches) {
            this.land = land;
            this.coaches = coaches;
        }

        void follow(int k, int n) {
            coaches[k].start(land.paces[k]);
            followFrom(k, coaches[k].standNow(), n);
        }

        void followFrom(int k, int stand, int n) {
            int at = stand;
            stands[k * SPAN] = at;
            for (int t = 0; t < n; t++) {
                at = coaches[k].next(at, t, 0);
                stands[k * SPAN + t + 1] = at;
            }
        }

        void followAll(int n) {
            for (int k = 0; k < land.carriages; k++) {
                coaches[k].start(land.paces[k]);
                followFrom(k, coaches[k].standNow(), n);
            }
        }

        int cellBehind(int k, int t) {
            return stands[k * SPAN + t] >> 3;
        }

        int wayBehind(int k, int t) {
            return stands[k * SPAN + t] & 7;
        }

        int firstNearest(int k, int spot, int n) {
            int first = 0;
            for (int t = 1; t <= n; t++) {
                if (Land.apart(cellBehind(k, t), spot) < Land.apart(cellBehind(k, first), spot)) {
                    first = t;
                }
            }
            return first;
        }

        int placesPassed(int k, int n) {
            int bits = 0;
            for (int t = 0; t <= n; t++) {
                bits |= land.placesNear(cellBehind(k, t));
            }
            return bits;
        }

        private boolean together(int a, int b, int t) {
            return land.near(cellBehind(a, t), cellBehind(b, t));
        }

        int firstMeeting(int a, int b) {
            for (int t = 0; t <= HOURS; t++) {
                if (together(a, b, t)) {
                    return t;
                }
            }
            return NOT;
        }

        int meetings(int a, int b, int n) {
            int times = 0;
            for (int t = 0; t <= n; t++) {
                if (together(a, b, t)) {
                    times++;
                }
            }
            return times;
        }

        int carriagesNear(int cell, int t) {
            int bits = 0;
            for (int k = 0; k < land.carriages; k++) {
                if (land.near(cellBehind(k, t), cell)) {
                    bits |= 1 << k;
                }
            }
            return bits;
        }

        int soonestBetween(int from, int to, boolean byWhich) {
            int in = 0;
            for (int t = 0; t <= HOURS; t++) {
                in = withChanges(in | carriagesNear(from, t), t);
                if ((in & carriagesNear(to, t)) != 0) {
                    return byWhich ? in : t;
                }
            }
            return NOT;
        }

        /** He may change as often as he likes in one hour; with six carriages five changes reach all. */
        private int withChanges(int boarded, int t) {
            int in = boarded;
            for (int change = 1; change < CARRIAGES; change++) {
                int before = in;
                for (int k = 0; k < land.carriages; k++) {
                    if ((before >> k & 1) == 1) {
                        in |= carriagesNear(cellBehind(k, t), t);
                    }
                }
                if (in == before) {
                    return in;
                }
            }
            return in;
        }

        int bestHouses(int most, int n) {
            findPassers(n);
            int best = 0;
            // bits go upward, so the first of like ones has the least
            for (int bits = 1; bits < 1 << land.places; bits++) {
                if (Integer.bitCount(bits) <= most && betterHouses(bits, best)) {
                    best = bits;
                }
            }
            return best;
        }

        private void findPassers(int n) {
            Arrays.fill(passers, 0);
            for (int k = 0; k < land.carriages; k++) {
                int passed = placesPassed(k, n);
                for (int p = 0; p < land.places; p++) {
                    passers[p] |= (passed >> p & 1) << k;
                }
            }
        }

        private boolean betterHouses(int bits, int than) {
            int more = Integer.bitCount(passersOf(bits)) - Integer.bitCount(passersOf(than));
            return more > 0 || more == 0 && Integer.bitCount(bits) < Integer.bitCount(than);
        }

        /** Carriages that pass one of these places, as bestHouses() last found them. */
        int passersOf(int placeBits) {
            int bits = 0;
            for (int p = 0; p < land.places; p++) {
                if ((placeBits >> p & 1) == 1) {
                    bits |= passers[p];
                }
            }
            return bits;
        }
    }

    /** Which ways, cells and paces fit a row of twos: behind how many hours, near which place. */
    private static final class Dinners {
        private static final int MOST_TWOS = 20;

        private final Land land;
        private final Coach[] coaches;
        private final Journeys journeys;

        Dinners(Land land, Coach[] coaches, Journeys journeys) {
            this.land = land;
            this.coaches = coaches;
            this.journeys = journeys;
        }

        int firstWrongNow(Shelf row, int k) {
            coaches[k].start(land.paces[k]);
            journeys.followFrom(k, coaches[k].standNow(), lastHour(row));
            return firstWrong(row, k);
        }

        int waysThatFit(Shelf row, int k) {
            coaches[k].start(land.paces[k]);
            int last = lastHour(row);
            int bits = 0;
            for (int way = 0; way < 8; way++) {
                journeys.followFrom(k, 8 * land.cells[k] + way, last);
                if (firstWrong(row, k) == NOT) {
                    bits |= 1 << way;
                }
            }
            return bits;
        }

        int cellsThatFit(Shelf row, int k, boolean least) {
            coaches[k].start(land.paces[k]);
            int last = lastHour(row);
            int many = 0;
            for (int cell = 0; cell < 256; cell++) {
                journeys.followFrom(k, 8 * cell + land.ways[k], last);
                if (firstWrong(row, k) == NOT) {
                    if (least) {
                        return cell;
                    }
                    many++;
                }
            }
            return least ? NOT : many;
        }

        int pacesThatFit(Shelf row, int k) {
            int last = lastHour(row);
            int bits = 0;
            for (int pace = 1; pace <= 4; pace++) {
                coaches[k].start(pace);
                journeys.followFrom(k, coaches[k].standNow(), last);
                if (firstWrong(row, k) == NOT) {
                    bits |= 1 << pace;
                }
            }
            return bits;
        }

        private int firstWrong(Shelf row, int k) {
            int twos = twosOf(row);
            for (int two = 0; two < twos; two++) {
                if (!isSo(row, two, k)) {
                    return two;
                }
            }
            return NOT;
        }

        /** A two that lacks its place is counted too: it is not so. */
        private static int twosOf(Shelf row) {
            return Math.min(MOST_TWOS, (row.length + 1) / 2);
        }

        private boolean isSo(Shelf row, int two, int k) {
            if (2 * two + 1 >= row.length) {
                return false;
            }
            int t = (int) row.items[2 * two];
            int p = (int) row.items[2 * two + 1];
            return within(t, 0, HOURS) && land.hasPlace(p) && land.near(journeys.cellBehind(k, t), land.spots[p]);
        }

        /** No hour behind this one is asked for. */
        private static int lastHour(Shelf row) {
            int last = 0;
            int twos = twosOf(row);
            for (int two = 0; two < twos; two++) {
                int t = (int) row.items[2 * two];
                if (t > last && t <= HOURS) {
                    last = t;
                }
            }
            return last;
        }
    }

    /** Hours in which a carriage turns beyond the law: by reins, by chance, by two at the box, by draws. */
    private static final class Boxes {
        static final int REINED_HOURS = 12, NO_PLAN = Integer.MAX_VALUE;
        private static final int STANDS = 8 * 256, ONE_REIN = 1 << 2 * REINED_HOURS;
        /** none first, then less, then more: the order in which like ones are told. */
        private static final int[] BEYOND = {0, -1, 1};

        private final Land land;
        private final Coach[] coaches;
        private final int[] evenPlans = new int[STANDS];
        private final int[] oddPlans = new int[STANDS];
        private final int[] stands = new int[CARRIAGES];

        Boxes(Land land, Coach[] coaches) {
            this.land = land;
            this.coaches = coaches;
        }

        /**
         * A plan is how many reins, then hour by hour (the first highest) which, by its place in BEYOND:
         * so the least plan that comes to a stand is the one that is told.
         */
        int fewestReins(int k, int spot, int hours) {
            Coach coach = coaches[k];
            coach.start(land.paces[k]);
            int[] plans = evenPlans;
            int[] then = oddPlans;
            Arrays.fill(plans, NO_PLAN);
            plans[coach.standNow()] = 0;
            for (int t = 0; t < hours; t++) {
                goOn(coach, t, plans, then);
                int[] free = plans;
                plans = then;
                then = free;
            }
            return leastNear(plans, spot);
        }

        private static void goOn(Coach coach, int t, int[] plans, int[] then) {
            Arrays.fill(then, NO_PLAN);
            for (int stand = 0; stand < STANDS; stand++) {
                if (plans[stand] == NO_PLAN) {
                    continue;
                }
                for (int choice = 0; choice < 3; choice++) {
                    int plan = plans[stand] + (choice == 0 ? 0 : ONE_REIN) + (choice << shiftOf(t));
                    int next = coach.next(stand, t, BEYOND[choice]);
                    then[next] = Math.min(then[next], plan);
                }
            }
        }

        private int leastNear(int[] plans, int spot) {
            int least = NO_PLAN;
            for (int stand = 0; stand < STANDS; stand++) {
                if (plans[stand] < least && land.near(stand >> 3, spot)) {
                    least = plans[stand];
                }
            }
            return least;
        }

        private static int shiftOf(int t) {
            return 2 * (REINED_HOURS - 1 - t);
        }

        static int reinsIn(int plan) {
            return plan / ONE_REIN;
        }

        static int reinAt(int plan, int t) {
            int choice = plan >> shiftOf(t) & 3;
            return choice < 3 ? 1 + BEYOND[choice] : 1;
        }

        /** Over all ways it may go, in twelfths to the power of the hours: how far apart, or how often near. */
        long weight(int kp, int hours, int odds, boolean far) {
            Coach coach = coaches[kp / 10];
            coach.start(land.paces[kp / 10]);
            int spot = land.spots[kp % 10];
            long sum = 0;
            for (int gone = 0; gone < 1 << hours; gone++) {
                long weight = 1;
                int stand = coach.standNow();
                for (int t = 0; t < hours && weight != 0; t++) {
                    int more = gone >> t & 1;
                    weight *= more == 1 ? odds : 12 - odds;
                    stand = coach.next(stand, t, more);
                }
                int apart = Land.apart(stand >> 3, spot);
                sum += weight * (far ? apart : apart <= land.reach ? 1 : 0);
            }
            return sum;
        }

        long fraction(long above, int hours, int part) {
            long below = 1;
            for (int t = 0; t < hours; t++) {
                below *= 12;
            }
            long common = commonDivisor(above, below);
            return (part == 0 ? above : below) / common;
        }

        private static long commonDivisor(long a, long b) {
            long greater = a;
            long less = b;
            // a hundred rounds are more than two longs ever need
            for (int round = 0; round < 100 && less != 0; round++) {
                long rest = greater % less;
                greater = less;
                less = rest;
            }
            return Math.max(1, greater);
        }

        int herBest(int k, int spot, int hours, boolean first) {
            Coach coach = coaches[k];
            coach.start(land.paces[k]);
            int best = Integer.MAX_VALUE;
            int does = 0;
            for (int choice = 0; choice < 3; choice++) {
                int far = farAtLast(coach, coach.next(coach.standNow(), 0, BEYOND[choice]), 1, hours, spot);
                if (far < best) {
                    best = far;
                    does = choice;
                }
            }
            return first ? 1 + BEYOND[does] : best;
        }

        private static int farAtLast(Coach coach, int stand, int t, int hours, int spot) {
            if (t >= hours) {
                return Land.apart(stand >> 3, spot);
            }
            boolean hers = t % 2 == 0;
            int best = hers ? Integer.MAX_VALUE : -1;
            for (int choice = 0; choice < 3; choice++) {
                int far = farAtLast(coach, coach.next(stand, t, BEYOND[choice]), t + 1, hours, spot);
                best = hers ? Math.min(best, far) : Math.max(best, far);
            }
            return best;
        }

        int byDraws(int seed, int years, int hours, int place) {
            for (int k = 0; k < land.carriages; k++) {
                coaches[k].start(land.paces[k]);
            }
            int z = seed;
            int sum = 0;
            for (int year = 0; year < years; year++) {
                z = drawYear(z, hours);
                sum += place == -1 ? placesReached() : carriagesAt(land.spots[place]);
            }
            return sum;
        }

        /** The draws go on from year to year, so what z has become is handed on. */
        private int drawYear(int seed, int hours) {
            int z = seed;
            for (int k = 0; k < land.carriages; k++) {
                stands[k] = coaches[k].standNow();
            }
            for (int t = 0; t < hours; t++) {
                for (int k = 0; k < land.carriages; k++) {
                    z = z * 1103515245 + 12345;
                    stands[k] = coaches[k].next(stands[k], t, (z >>> 8) % 3 - 1);
                }
            }
            return z;
        }

        private int carriagesAt(int spot) {
            int many = 0;
            for (int k = 0; k < land.carriages; k++) {
                if (land.near(stands[k] >> 3, spot)) {
                    many++;
                }
            }
            return many;
        }

        private int placesReached() {
            int bits = 0;
            for (int k = 0; k < land.carriages; k++) {
                bits |= land.placesNear(stands[k] >> 3);
            }
            return Integer.bitCount(bits);
        }
    }

    /** What mend() changed, the latest last; those beyond the undoable ones may be done again. */
    private static final class Changes {
        private static final int MOST = 40, PARTS = 4;

        private final Land land;
        private final int[] told = new int[PARTS * MOST];
        int undoable;
        private int kept;

        Changes(Land land) {
            this.land = land;
        }

        void note(int number, int what, int was, int becomes) {
            if (undoable >= MOST) {
                System.arraycopy(told, PARTS, told, 0, PARTS * (MOST - 1));
                undoable = MOST - 1;
            }
            int i = PARTS * undoable;
            told[i] = number;
            told[i + 1] = what;
            told[i + 2] = was;
            told[i + 3] = becomes;
            undoable++;
            kept = undoable;
        }

        int takeBack() {
            if (undoable == 0) {
                return STATE;
            }
            undoable--;
            int i = PARTS * undoable;
            land.write(told[i], told[i + 1], told[i + 2]);
            return undoable;
        }

        int doAgain() {
            if (undoable == kept) {
                return STATE;
            }
            int i = PARTS * undoable;
            land.write(told[i], told[i + 1], told[i + 3]);
            undoable++;
            return kept - undoable;
        }
    }

    /** Hours, reins and shoes in deed, what they led to, and the image of it. */
    private static final class Deeds {
        static final int LED = 5;
        private static final int HOURS_LED = 0, CELLS_GONE = 1, REINS = 2, SHOES = 3, NEARS = 4;

        private final Land land;
        private final Coach[] coaches;
        final int[] done = new int[LED];

        private int imaged = NOT;
        private int hourThen;
        private final int[] cellsThen = new int[CARRIAGES];
        private final int[] waysThen = new int[CARRIAGES];
        private final int[] shoesThen = new int[CARRIAGES];
        private final int[] doneThen = new int[LED];

        Deeds(Land land, Coach[] coaches) {
            this.land = land;
            this.coaches = coaches;
        }

        void passHour() {
            for (int k = 0; k < land.carriages; k++) {
                Coach coach = coaches[k];
                coach.start(land.paces[k]);
                int stand = coach.next(coach.standNow(), 0, 0);
                land.cells[k] = stand >> 3;
                land.ways[k] = stand & 7;
                land.shoes[k] = Math.max(0, land.shoes[k] - 1);
                done[CELLS_GONE] += coach.gone;
                done[NEARS] += Integer.bitCount(land.placesNear(stand >> 3));
            }
            land.hour = Math.min(Land.LAST_HOUR, land.hour + 1);
            done[HOURS_LED]++;
        }

        int pullRein(int k, int by) {
            land.ways[k] = land.ways[k] + by & 7;
            done[REINS]++;
            return land.ways[k];
        }

        int putShoe(int k) {
            int was = land.shoes[k];
            land.shoes[k] = Land.FULL_SHOE;
            done[SHOES]++;
            return was;
        }

        int keepImage() {
            imaged = land.carriages;
            hourThen = land.hour;
            System.arraycopy(land.cells, 0, cellsThen, 0, CARRIAGES);
            System.arraycopy(land.ways, 0, waysThen, 0, CARRIAGES);
            System.arraycopy(land.shoes, 0, shoesThen, 0, CARRIAGES);
            System.arraycopy(done, 0, doneThen, 0, LED);
            return done[HOURS_LED];
        }

        int layBack() {
            if (imaged == NOT) {
                return STATE;
            }
            land.hour = hourThen;
            System.arraycopy(cellsThen, 0, land.cells, 0, imaged);
            System.arraycopy(waysThen, 0, land.ways, 0, imaged);
            System.arraycopy(shoesThen, 0, land.shoes, 0, imaged);
            System.arraycopy(doneThen, 0, done, 0, LED);
            return done[HOURS_LED];
        }
    }

    /** Holds nothing, a body, or a row, whose elements stand as longs whatever their sort. */
    private static final class Shelf {
        static final int NOTHING = -2, BODY = -1, BYTES = 0, SHORTS = 1, INTS = 2, LONGS = 3, BOOLEANS = 4;
        static final int LONGEST = 60;

        int sort = NOTHING;
        int body;
        int length;
        final long[] items = new long[LONGEST];

        void clear() {
            sort = NOTHING;
            length = 0;
        }

        void holdBody(int number) {
            sort = BODY;
            body = number;
            length = 0;
        }

        void holdRow(int newSort, int n) {
            sort = newSort;
            length = n;
            Arrays.fill(items, 0L);
        }

        void store(int i, long v) {
            switch (sort) {
                case BYTES: items[i] = (byte) v; break;
                case SHORTS: items[i] = (short) v; break;
                case INTS: items[i] = (int) v; break;
                case BOOLEANS: items[i] = v != 0 ? 1 : 0; break;
                default: items[i] = v; break;
            }
        }

        /** Asked without a sum, which could run past what an int holds. */
        boolean hasRange(int i, int n) {
            return n >= 0 && n <= length && i >= 0 && i <= length - n;
        }

        /** 0, if it holds a row of bytes. */
        int refusalAsBytes() {
            if (sort == NOTHING) {
                return NOTHING_THERE;
            }
            return sort == BYTES ? 0 : OTHER_KIND;
        }
    }

    /** Bodies by their kinds, and acts that a kind without a body of its own has from above. */
    private static final class Bodies {
        static final int KINDS = 8, ACTS = 4;
        private static final int FACES = 0, DRIVES = 1, WEEPS = 2, TELLS = 3;
        private static final int MOST = 50, TRACED = 24, DEEPEST = 40;
        private static final int[] ABOVE = {-1, 0, 0, 2, 1, 3, 0, 6};
        /** By kinds, then acts: the body of its own, 0 if there is none. */
        private static final int[] OWN = {
            1, 10, 11, 2,
            20, 0, 0, 0,
            0, 30, 0, 0,
            0, 41, 40, 0,
            0, 0, 0, 50,
            0, 0, 60, 61,
            70, 0, 0, 0,
            81, 80, 0, 0,
        };

        private final int[] kinds = new int[MOST];
        int kept;
        private final int[] trail = new int[TRACED];
        int ran;
        private int self;

        boolean has(int number) {
            return number >= 0 && number < kept;
        }

        int add(int kind) {
            if (kept >= MOST) {
                return FULL;
            }
            kinds[kept] = kind;
            kept++;
            return kept - 1;
        }

        int kindOf(int number) {
            return has(number) ? kinds[number] : 0;
        }

        static boolean isOrUnder(int kind, int other) {
            int at = kind;
            for (int step = 0; step < KINDS && within(at, 0, KINDS - 1); step++) {
                if (at == other) {
                    return true;
                }
                at = ABOVE[at];
            }
            return false;
        }

        void forgetTrace() {
            ran = 0;
        }

        int traced(int i) {
            return i >= 0 && i < ran && i < TRACED ? trail[i] : BAD;
        }

        int start(int number, int act, int x) {
            self = number;
            return own(act, x, 0);
        }

        private int own(int act, int x, int depth) {
            return run(kindOf(self), act, x, depth);
        }

        private int run(int kind, int act, int x, int depth) {
            int holder = holderOf(kind, act);
            if (holder < 0 || depth > DEEPEST) {
                return 0;
            }
            int body = OWN[ACTS * holder + act];
            if (ran < TRACED) {
                trail[ran] = body;
            }
            ran++;
            return holder == 0 ? first(body, x, depth + 1) : inherited(body, ABOVE[holder], x, depth + 1);
        }

        /** The next kind from this one upward that has a body of its own for the act; -1: none. */
        private static int holderOf(int kind, int act) {
            int at = kind;
            for (int step = 0; step < KINDS && within(at, 0, KINDS - 1); step++) {
                if (OWN[ACTS * at + act] != 0) {
                    return at;
                }
                at = ABOVE[at];
            }
            return -1;
        }

        private int first(int body, int x, int depth) {
            switch (body) {
                case 1: return x + self;
                case 10: return own(FACES, x, depth) * 2;
                case 11: return x ^ self;
                case 2: return own(DRIVES, x, depth) - own(WEEPS, 1, depth);
                default: return 0;
            }
        }

        private int inherited(int body, int above, int x, int depth) {
            switch (body) {
                case 20: return run(above, FACES, x, depth) + 3;
                case 30: return -run(above, DRIVES, x, depth);
                case 40: return run(above, WEEPS, x, depth) * 3;
                case 41: return run(above, DRIVES, x + 1, depth);
                case 50: return run(above, TELLS, x, depth) ^ 5;
                case 60: return run(above, WEEPS, x, depth) - own(FACES, 2, depth);
                case 61: return run(above, TELLS, x, depth) + 1;
                case 70: return run(above, FACES, x, depth) * 2;
                case 80: return run(above, DRIVES, x, depth) + own(WEEPS, 2, depth);
                case 81: return run(above, FACES, x, depth) - 1;
                default: return 0;
            }
        }
    }
}
