import java.util.function.IntSupplier;
import java.util.function.ToIntFunction;

/**
 * Of several exceptions the first one of the throws clause is due, and a call
 * that throws changes nothing: a twin without that call answers all the same.
 */
public final class ExceptionsTest {
    private static final Due due = new Due();
    private static final String NO_SUCH = "java.lang.IndexOutOfBoundsException";
    private static final String OUT_OF_RANGE = "java.lang.IllegalArgumentException";
    private static final String NOT_NOW = "java.lang.IllegalStateException";

    public static void main(String[] args) {
        netCalls();
        markingCalls();
        otherCalls();
        fullNet();
        fullLog();
        due.end();
    }

    /** A net in which there is something of all: three places, three firings, a log. */
    private static MarkingHall some() {
        MarkingHall hall = Nets.with(3, 2, 0, 1);
        Nets.moves(hall, 0, 0, 1, 1, 1);
        Nets.moves(hall, 1, 1, 1, 0, 1);
        Nets.moves(hall, 2, 2, 1, 2, 1);
        hall.arc(1, 2, Nets.TEST, 1);
        hall.arc(0, 2, Nets.HOLD, 3);
        hall.fire(0);
        hall.log(1);
        hall.log(0);
        return hall;
    }

    private static void throwing(String call, String want, ToIntFunction<MarkingHall> failing) {
        MarkingHall asked = some();
        IntSupplier body = () -> failing.applyAsInt(asked);
        due.is(call, want, Due.outcome(body));
        due.is(call + " again", want, Due.outcome(body));
        due.is("all behind " + call, Nets.picture(some(), 3, 3), Nets.picture(asked, 3, 3));
    }

    private static void netCalls() {
        throwing("place(100)", OUT_OF_RANGE, hall -> hall.place(100));
        throwing("place(-1)", OUT_OF_RANGE, hall -> hall.place(-1));
        throwing("arc of no firing, no place, no kind, no weight", NO_SUCH, hall -> hall.arc(3, 3, 5, 4));
        throwing("arc of no firing, no kind", NO_SUCH, hall -> hall.arc(-1, 0, 5, 0));
        throwing("arc of no place, no weight", NO_SUCH, hall -> hall.arc(0, 3, 0, 4));
        throwing("arc of no kind", OUT_OF_RANGE, hall -> hall.arc(0, 0, 5, 0));
        throwing("arc of kind -1", OUT_OF_RANGE, hall -> hall.arc(0, 0, -1, 0));
        throwing("arc of weight 4", OUT_OF_RANGE, hall -> hall.arc(0, 0, Nets.TAKE, 4));
        throwing("arc of weight -1", OUT_OF_RANGE, hall -> hall.arc(0, 0, Nets.HOLD, -1));
        throwing("EMPTY of weight 2", OUT_OF_RANGE, hall -> hall.arc(0, 0, Nets.EMPTY, 2));
        throwing("tokens(3)", NO_SUCH, hall -> hall.tokens(3));
        throwing("can(3)", NO_SUCH, hall -> hall.can(3) ? 1 : 0);
        throwing("fire(3)", NO_SUCH, hall -> hall.fire(3));
        throwing("fire(-1)", NO_SUCH, hall -> hall.fire(-1));
        throwing("fire(0) held back", NOT_NOW, hall -> {
            int was = hall.arc(0, 0, Nets.HOLD, 1);
            try {
                return hall.fire(0);
            } finally {
                hall.arc(0, 0, Nets.HOLD, was);
            }
        });
    }

    private static void markingCalls() {
        throwing("graph(4)", OUT_OF_RANGE, hall -> hall.graph(4));
        throwing("graph(-1)", OUT_OF_RANGE, hall -> hall.graph(-1));
        throwing("marking(-1, 3)", NO_SUCH, hall -> hall.marking(-1, 3));
        throwing("marking(-1, 2)", OUT_OF_RANGE, hall -> hall.marking(-1, 2));
        throwing("most(3)", NO_SUCH, hall -> hall.most(3));
        throwing("level(3)", NO_SUCH, hall -> hall.level(3));
        throwing("way(3, 100)", NO_SUCH, hall -> hall.way(3, 100));
        throwing("way(0, 100)", OUT_OF_RANGE, hall -> hall.way(0, 100));
        throwing("step(-1, -1, -1)", NO_SUCH, hall -> hall.step(-1, -1, -1));
        throwing("step(0, -1, 0)", OUT_OF_RANGE, hall -> hall.step(0, -1, 0));
        throwing("step(0, 0, -1)", OUT_OF_RANGE, hall -> hall.step(0, 0, -1));
    }

    private static void otherCalls() {
        throwing("row(2, 0)", NO_SUCH, hall -> hall.row(2, 0));
        throwing("row(0, 3)", NO_SUCH, hall -> hall.row(0, 3));
        throwing("row(-1, -1)", NO_SUCH, hall -> hall.row(-1, -1));
        throwing("mostByRows(3)", NO_SUCH, hall -> hall.mostByRows(3));
        throwing("round(2, 0)", NO_SUCH, hall -> hall.round(2, 0));
        throwing("round(0, 3)", NO_SUCH, hall -> hall.round(0, 3));
        throwing("siphon(2)", NO_SUCH, hall -> hall.siphon(2));
        throwing("siphon(-1)", NO_SUCH, hall -> hall.siphon(-1));
        throwing("trap(8)", OUT_OF_RANGE, hall -> hall.trap(8));
        throwing("trap(-1)", OUT_OF_RANGE, hall -> hall.trap(-1));
        throwing("log(3)", NO_SUCH, hall -> hall.log(3));
        throwing("log(-1)", NO_SUCH, hall -> hall.log(-1));
    }

    private static void fullNet() {
        MarkingHall hall = Nets.with(8, 1, 1, 1, 1, 1, 1);
        due.is("a ninth firing", NOT_NOW, Due.outcome(hall::firing));
        due.is("a seventh place", NOT_NOW, Due.outcome(() -> hall.place(99)));
        due.is("a seventh place of -1 tokens", OUT_OF_RANGE, Due.outcome(() -> hall.place(-1)));
        due.is("no ninth firing", NO_SUCH, Due.outcome(() -> hall.can(8) ? 1 : 0));
        due.is("no seventh place", NO_SUCH, Due.outcome(() -> hall.tokens(6)));
        due.is("still full", NOT_NOW, Due.outcome(hall::firing));
        due.is("markings", "1", Due.outcome(() -> hall.graph(0)));
        due.is("rounds", "8", Due.outcome(hall::rounds));
        due.is("rows", "6", Due.outcome(hall::rows));
        due.is("all places", "63", Due.outcome(() -> hall.trap(63)));
    }

    private static void fullLog() {
        MarkingHall hall = some();
        for (int i = 2; i < 10; i++) {
            hall.log(2);
        }
        due.is("goes", "10", Due.outcome(hall::goes));
        due.is("an eleventh", NOT_NOW, Due.outcome(() -> hall.log(0)));
        due.is("an eleventh that is none", NO_SUCH, Due.outcome(() -> hall.log(3)));
        due.is("goes as before", "10", Due.outcome(hall::goes));
        due.is("costs as before", "0", Due.outcome(hall::cost));
        due.is("ten were in it", "10", Due.outcome(hall::blank));
    }
}
