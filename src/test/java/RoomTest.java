import java.lang.management.ManagementFactory;

/** All calls of a run live in one room: what an object makes is made with it, and its calls make nothing. */
public final class RoomTest {
    private static final int CALLS = 512;
    /** Far below the room of a run (7.3 million fields and elements), many objects in it, too. */
    private static final long MOST_BYTES_OF_ONE = 100_000;

    private static long sum = 0;

    public static void main(String[] args) {
        if (!(ManagementFactory.getThreadMXBean() instanceof com.sun.management.ThreadMXBean)) {
            System.out.println("this machine does not count what is made");
            return;
        }
        com.sun.management.ThreadMXBean made = (com.sun.management.ThreadMXBean) ManagementFactory.getThreadMXBean();
        long own = Thread.currentThread().getId();
        // once ahead, so that what the machine makes for itself is not counted
        CoachmenFace warm = land();
        everyCall(warm);
        made.getThreadAllocatedBytes(own);

        long before = made.getThreadAllocatedBytes(own);
        CoachmenFace f = new CoachmenFace();
        long ofOne = made.getThreadAllocatedBytes(own) - before;
        Check.due("one object is small: " + ofOne, ofOne <= MOST_BYTES_OF_ONE);

        f = land();
        before = made.getThreadAllocatedBytes(own);
        for (int i = 0; i < CALLS / 40; i++) {
            everyCall(f);
        }
        long ofCalls = made.getThreadAllocatedBytes(own) - before;
        Check.due("calls make nothing: " + ofCalls, ofCalls <= 10_000);
        System.out.println(ofOne + " bytes an object, " + ofCalls + " by its calls, sum " + sum);
        Check.end();
    }

    private static CoachmenFace land() {
        CoachmenFace f = new CoachmenFace();
        for (int k = 0; k < 6; k++) {
            f.carriage(40 * k, k);
            f.mend(k, 2, 4);
        }
        for (int p = 0; p < 8; p++) {
            f.place(30 * p);
        }
        f.body(5);
        f.row(0, 0, 40);
        f.row(1, 1, 60);
        return f;
    }

    private static void everyCall(CoachmenFace f) {
        sum += f.feed('h') + f.feed('%') + f.feed('2') + f.feed('-') + f.feed('1') + f.law() + f.turn(5);
        sum += f.later(5, 60, 0) + f.nears(57, 60, 0) + f.passes(5, 60, 1) + f.meet(45) + f.often(45, 60) + f.who(9, 60);
        sum += f.soonest(7, 1) + f.buy(3, 30, 1) + f.judge(0, 3) + f.dined(0, 3, 0) + f.dined(0, 3, 1) + f.dined(0, 3, 3);
        sum += f.reins(57, 12, -1) + f.chance(57, 8, 5, 0) + f.mean(57, 8, 5, 1) + f.byTurns(57, 6, 0) + f.drawn(3, 3040, -1);
        sum += f.hour() + f.rein(1, 1) + f.shoe(1) + f.buys(1) + f.led(1) + f.image() + f.back() + f.mend(0, 0, 5);
        sum += f.undo() + f.redo() + f.body(3) + f.act(0, 3, 4) + f.trace(0) + f.keep(2, 0) + f.row(3, 3, 60) + f.put(3, 3, 3);
        sum += f.element(3, 3) + f.shift(3, 0, 3, 1, 50) + f.taken(2, 0) + f.count(5) + f.carriages(1, 0, 6) + f.of(0, 0);
    }
}
