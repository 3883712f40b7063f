import com.sun.management.ThreadMXBean;
import java.lang.management.ManagementFactory;

/**
 * All calls of one run live in one room: an object makes its arrays as it is
 * made, and no call that is answered makes anything more.
 */
public final class RoomTest {
    // With those that make the net, and as some turns make two, some 480 calls.
    private static final int TURNS = 400;
    // What an object may hold, and what all calls may add to it, in bytes: a
    // call's smallest array, made at every turn, would be above the second.
    private static final long OF_AN_OBJECT = 100_000;
    private static final long OF_ALL_CALLS = 5_000;

    private static final Due due = new Due();
    private static long seen;

    public static void main(String[] args) {
        ThreadMXBean meter = (ThreadMXBean) ManagementFactory.getThreadMXBean();
        if (!meter.isThreadAllocatedMemorySupported() || !meter.isThreadAllocatedMemoryEnabled()) {
            System.out.println("this Java machine does not measure what a thread makes");
            return;
        }
        // The first rounds load what the measuring itself needs.
        for (int round = 0; round < 3; round++) {
            measure(meter, round);
        }
        due.is("the calls were answered", true, seen != 0);
        due.end();
    }

    private static void measure(ThreadMXBean meter, int round) {
        long before = meter.getCurrentThreadAllocatedBytes();
        MarkingHall hall = new MarkingHall();
        long made = meter.getCurrentThreadAllocatedBytes();
        ask(hall);
        long behind = meter.getCurrentThreadAllocatedBytes();
        if (round > 0) {
            due.is("an object of " + (made - before) + " bytes is small", true, made - before < OF_AN_OBJECT);
            due.is("calls that make " + (behind - made) + " bytes make next to nothing", true,
                behind - made < OF_ALL_CALLS);
        }
    }

    /** Asks everything of a net that is full and changes from turn to turn. */
    private static void ask(MarkingHall hall) {
        for (int p = 0; p < 6; p++) {
            hall.place(p == 0 ? 4 : 0);
        }
        for (int f = 0; f < 8; f++) {
            hall.firing();
            hall.arc(f, f % 6, MarkingHall.TAKE, 1);
            hall.arc(f, (f + 1) % 6, MarkingHall.GIVE, 1);
        }
        for (int i = 0; i < TURNS; i++) {
            seen += i % 3 == 0 ? hall.arc(7, 0, MarkingHall.TEST, i % 2) : answer(hall, i);
        }
    }

    private static int answer(MarkingHall hall, int i) {
        switch (i % 26) {
            case 0: return hall.tokens(5);
            case 1: return hall.can(0) ? 1 : 0;
            case 2: return hall.can(0) ? hall.fire(0) : 0;
            case 3: return hall.graph(0);
            case 4: return hall.graph(3);
            case 5: return hall.marking(7, 1);
            case 6: return hall.most(2);
            case 7: return hall.level(3);
            case 8: return hall.way(5, 2);
            case 9: return hall.step(5, 2, 1);
            case 10: return hall.rows();
            case 11: return hall.rows() > 0 ? hall.row(0, 0) : 0;
            case 12: return hall.mostByRows(4);
            case 13: return hall.rounds();
            case 14: return hall.rounds() > 0 ? hall.round(0, 7) : 0;
            case 15: return hall.keeps() ? 1 : 0;
            case 16: return hall.siphons();
            case 17: return hall.siphons() > 0 ? hall.siphon(0) : 0;
            case 18: return hall.trap(63);
            case 19: return hall.isPromising() ? 1 : 0;
            case 20: return hall.log(2) > 9 ? hall.blank() : 0;
            case 21: return hall.log(0) > 9 ? hall.blank() : 0;
            case 22: return hall.goes();
            case 23: return hall.graph(1);
            default: return hall.cost();
        }
    }
}
