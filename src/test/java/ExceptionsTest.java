import java.util.function.Supplier;
import java.util.function.ToIntFunction;

/**
 * Every call that is to be refused, on nets of several kinds: the exception
 * that is due, of several the first one of the throws clause, and a look at
 * the object before and behind it. A twin without the refused call tells what
 * a look does not show.
 */
public final class ExceptionsTest {
    private static final Due due = new Due();
    private static final String NO_SUCH = Due.NO_SUCH;
    private static final String OUT_OF_RANGE = Due.OUT_OF_RANGE;
    private static final String NOT_NOW = Due.NOT_NOW;

    public static void main(String[] args) {
        Kind[] kinds = {
            new Kind("nothing", MarkingHall::new, 0, 0),
            new Kind("places alone", () -> Nets.with(0, 4, 0), 2, 0),
            new Kind("firings alone", () -> Nets.with(2), 0, 2),
            new Kind("some", ExceptionsTest::some, 3, 3),
            new Kind("a full one", ExceptionsTest::full, 6, 8),
            new Kind("a too great one", ExceptionsTest::great, 2, 3),
        };
        for (Kind kind : kinds) {
            placesThatAreNone(kind);
            firingsThatAreNone(kind);
            leastOnesThatAreNone(kind);
            otherArguments(kind);
            severalAtOnce(kind);
        }
        fullNet(kinds[4]);
        fullLog(kinds[4]);
        cannotBeDone(kinds[3]);
        due.end();
    }

    /** A kind of net, how to make one, and how much it has. */
    private static final class Kind {
        private final String name;
        private final Supplier<MarkingHall> maker;
        private final int places;
        private final int firings;

        private Kind(String name, Supplier<MarkingHall> maker, int places, int firings) {
            this.name = name;
            this.maker = maker;
            this.places = places;
            this.firings = firings;
        }

        private void refuses(String want, String call, ToIntFunction<MarkingHall> body) {
            String title = name + ": " + call;
            MarkingHall asked = maker.get();
            String before = Nets.look(asked, places, firings);
            due.is(title, want, Due.outcome(() -> body.applyAsInt(asked)));
            due.is(title + " again", want, Due.outcome(() -> body.applyAsInt(asked)));
            due.is(title + ", a look behind it", before, Nets.look(asked, places, firings));
            due.is(title + ", a last look behind it", Nets.lastLook(maker.get(), places, firings),
                Nets.lastLook(asked, places, firings));
            MarkingHall first = maker.get();
            due.is(title + " as the first question", want, Due.outcome(() -> body.applyAsInt(first)));
        }
    }

    /** Three places, three firings, one of them done, a log of two. */
    private static MarkingHall some() {
        MarkingHall hall = Nets.with(3, 2, 0, 1);
        Nets.moves(hall, 0, 0, 1, 1, 1);
        Nets.moves(hall, 1, 1, 1, 0, 1);
        Nets.moves(hall, 2, 2, 1, 2, 1);
        hall.arc(1, 2, Nets.TEST, 1);
        hall.arc(0, 2, Nets.HOLD, 3);
        hall.fire(0);
        hall.log(1);
        hall.log(0);
        return hall;
    }

    /** Six places, eight firings, a log of ten: no more of any of them. */
    private static MarkingHall full() {
        MarkingHall hall = Nets.with(8, 1, 0, 0, 0, 0, 0);
        for (int p = 0; p < 6; p++) {
            Nets.moves(hall, p, p, 1, (p + 1) % 6, 1);
        }
        Nets.moves(hall, 6, 0, 1, 2, 1);
        hall.fire(0);
        for (int i = 0; i < 10; i++) {
            hall.log(i % 8);
        }
        return hall;
    }

    private static MarkingHall great() {
        MarkingHall hall = Nets.with(3, 0, 0);
        hall.arc(0, 0, Nets.GIVE, 1);
        hall.arc(1, 1, Nets.GIVE, 1);
        hall.arc(2, 0, Nets.TEST, 1);
        hall.fire(0);
        hall.log(2);
        return hall;
    }

    /** Indices below and above those that there are, so far that packed or shifted ones would come round too. */
    private static int[] beside(int count) {
        return new int[] {-1, count, count + 1, count + 8, 256, 1 << 16, 1 << 29, Integer.MAX_VALUE, -256,
            Integer.MIN_VALUE};
    }

    private static void placesThatAreNone(Kind kind) {
        for (int wrong : beside(kind.places)) {
            kind.refuses(NO_SUCH, "tokens(" + wrong + ")", hall -> hall.tokens(wrong));
            kind.refuses(NO_SUCH, "marking(0, " + wrong + ")", hall -> hall.marking(0, wrong));
            kind.refuses(NO_SUCH, "most(" + wrong + ")", hall -> hall.most(wrong));
            kind.refuses(NO_SUCH, "way(" + wrong + ", 0)", hall -> hall.way(wrong, 0));
            kind.refuses(NO_SUCH, "step(" + wrong + ", 0, 0)", hall -> hall.step(wrong, 0, 0));
            kind.refuses(NO_SUCH, "row(0, " + wrong + ")", hall -> hall.row(0, wrong));
            kind.refuses(NO_SUCH, "mostByRows(" + wrong + ")", hall -> hall.mostByRows(wrong));
            kind.refuses(NO_SUCH, "arc(0, " + wrong + ", 0, 1)", hall -> hall.arc(0, wrong, 0, 1));
        }
    }

    private static void firingsThatAreNone(Kind kind) {
        for (int wrong : beside(kind.firings)) {
            kind.refuses(NO_SUCH, "can(" + wrong + ")", hall -> hall.can(wrong) ? 1 : 0);
            kind.refuses(NO_SUCH, "fire(" + wrong + ")", hall -> hall.fire(wrong));
            kind.refuses(NO_SUCH, "level(" + wrong + ")", hall -> hall.level(wrong));
            kind.refuses(NO_SUCH, "round(0, " + wrong + ")", hall -> hall.round(0, wrong));
            kind.refuses(NO_SUCH, "log(" + wrong + ")", hall -> hall.log(wrong));
            kind.refuses(NO_SUCH, "arc(" + wrong + ", 0, 0, 1)", hall -> hall.arc(wrong, 0, 0, 1));
        }
    }

    private static void leastOnesThatAreNone(Kind kind) {
        MarkingHall asked = kind.maker.get();
        for (int wrong : beside(asked.rows())) {
            kind.refuses(NO_SUCH, "row(" + wrong + ", 0)", hall -> hall.row(wrong, 0));
        }
        for (int wrong : beside(asked.rounds())) {
            kind.refuses(NO_SUCH, "round(" + wrong + ", 0)", hall -> hall.round(wrong, 0));
        }
        for (int wrong : beside(asked.siphons())) {
            kind.refuses(NO_SUCH, "siphon(" + wrong + ")", hall -> hall.siphon(wrong));
        }
    }

    private static void otherArguments(Kind kind) {
        for (int wrong : beside(100)) {
            kind.refuses(OUT_OF_RANGE, "place(" + wrong + ")", hall -> hall.place(wrong));
            if (kind.places > 0) {
                kind.refuses(OUT_OF_RANGE, "way(0, " + wrong + ")", hall -> hall.way(0, wrong));
                kind.refuses(OUT_OF_RANGE, "step(0, " + wrong + ", 0)", hall -> hall.step(0, wrong, 0));
            }
        }
        for (int wrong : beside(4)) {
            kind.refuses(OUT_OF_RANGE, "graph(" + wrong + ")", hall -> hall.graph(wrong));
        }
        for (int wrong : beside(1 << kind.places)) {
            kind.refuses(OUT_OF_RANGE, "trap(" + wrong + ")", hall -> hall.trap(wrong));
        }
        for (int wrong : new int[] {-1, -2, -256, Integer.MIN_VALUE}) {
            if (kind.places > 0) {
                kind.refuses(OUT_OF_RANGE, "marking(" + wrong + ", 0)", hall -> hall.marking(wrong, 0));
                kind.refuses(OUT_OF_RANGE, "step(0, 0, " + wrong + ")", hall -> hall.step(0, 0, wrong));
            }
        }
        if (kind.places > 0 && kind.firings > 0) {
            arcsOutOfRange(kind);
        }
    }

    private static void arcsOutOfRange(Kind kind) {
        for (int wrong : beside(5)) {
            kind.refuses(OUT_OF_RANGE, "arc(0, 0, " + wrong + ", 0)", hall -> hall.arc(0, 0, wrong, 0));
        }
        for (int k = Nets.TAKE; k <= Nets.EMPTY; k++) {
            int of = k;
            for (int wrong : beside(k == Nets.EMPTY ? 2 : 4)) {
                kind.refuses(OUT_OF_RANGE, "arc(0, 0, " + k + ", " + wrong + ")", hall -> hall.arc(0, 0, of, wrong));
            }
        }
    }

    /** Where more than one is due, the first one of the throws clause comes. */
    private static void severalAtOnce(Kind kind) {
        int p = kind.places;
        int f = kind.firings;
        kind.refuses(NO_SUCH, "arc of no firing and no kind", hall -> hall.arc(f, 0, 5, 0));
        kind.refuses(NO_SUCH, "arc of no place and no kind", hall -> hall.arc(0, p, -1, 0));
        kind.refuses(NO_SUCH, "arc of no firing and no weight", hall -> hall.arc(-1, 0, Nets.EMPTY, 2));
        kind.refuses(NO_SUCH, "arc of no place and no weight", hall -> hall.arc(0, -1, Nets.TAKE, 4));
        kind.refuses(NO_SUCH, "arc of nothing right", hall -> hall.arc(f, p, 5, -1));
        kind.refuses(NO_SUCH, "marking(-1) of no place", hall -> hall.marking(-1, p));
        kind.refuses(NO_SUCH, "way of no place to 100", hall -> hall.way(p, 100));
        kind.refuses(NO_SUCH, "way of no place to -1", hall -> hall.way(-1, -1));
        kind.refuses(NO_SUCH, "step of no place to 100", hall -> hall.step(p, 100, 0));
        kind.refuses(NO_SUCH, "step -1 of no place", hall -> hall.step(p, 0, -1));
        kind.refuses(NO_SUCH, "no row of no place", hall -> hall.row(-1, p));
        kind.refuses(NO_SUCH, "no round of no firing", hall -> hall.round(-1, f));
        if (p > 0) {
            kind.refuses(OUT_OF_RANGE, "step -1 to 100", hall -> hall.step(0, 100, -1));
        }
    }

    private static void fullNet(Kind full) {
        full.refuses(NOT_NOW, "a seventh place", hall -> hall.place(0));
        full.refuses(NOT_NOW, "a seventh place of 99", hall -> hall.place(99));
        full.refuses(OUT_OF_RANGE, "a seventh place of 100", hall -> hall.place(100));
        full.refuses(OUT_OF_RANGE, "a seventh place of -1", hall -> hall.place(-1));
        full.refuses(NOT_NOW, "a ninth firing", MarkingHall::firing);
    }

    private static void fullLog(Kind full) {
        full.refuses(NOT_NOW, "an eleventh in the log", hall -> hall.log(0));
        full.refuses(NOT_NOW, "an eleventh, the last firing", hall -> hall.log(7));
        full.refuses(NO_SUCH, "an eleventh that is none", hall -> hall.log(8));
        full.refuses(NO_SUCH, "an eleventh that is -1", hall -> hall.log(-1));
    }

    private static void cannotBeDone(Kind some) {
        Kind taken = new Kind("nothing to take", () -> changed(0, Nets.TAKE, 2), some.places, some.firings);
        taken.refuses(NOT_NOW, "fire(0)", hall -> hall.fire(0));
        Kind tested = new Kind("too few to test", () -> changed(0, Nets.TEST, 2), some.places, some.firings);
        tested.refuses(NOT_NOW, "fire(0)", hall -> hall.fire(0));
        Kind held = new Kind("held back", () -> changed(1, Nets.HOLD, 1), some.places, some.firings);
        held.refuses(NOT_NOW, "fire(0)", hall -> hall.fire(0));
        Kind topped = new Kind("a place at its most", ExceptionsTest::topped, 2, 1);
        topped.refuses(NOT_NOW, "fire(0)", hall -> hall.fire(0));
        topped.refuses(NO_SUCH, "fire(1)", hall -> hall.fire(1));
    }

    /** In it the places 0 and 1 have a token each. */
    private static MarkingHall changed(int place, int kind, int weight) {
        MarkingHall hall = some();
        hall.arc(0, place, kind, weight);
        return hall;
    }

    private static MarkingHall topped() {
        MarkingHall hall = Nets.with(1, 7, 99);
        Nets.moves(hall, 0, 0, 1, 1, 1);
        return hall;
    }
}
