/** Promises 20 to 23: siphons, siphon, trap, isPromising. */
public final class SiphonsTrapsTest {
    private static final Due due = new Due();

    public static void main(String[] args) {
        siphonsWithoutFirings();
        siphons();
        siphonsAndOtherArcs();
        traps();
        trapsAndEmpty();
        trapsStepByStep();
        promising();
        wrongArguments();
        due.end();
    }

    private static void siphonsWithoutFirings() {
        due.is("of nothing", "", Nets.siphons(new MarkingHall()));
        due.is("of firings alone", "", Nets.siphons(Nets.with(2)));
        due.is("of places alone", "1 2 4 8 16 32", Nets.siphons(Nets.with(0, 1, 1, 1, 1, 1, 1)));
    }

    private static void siphons() {
        due.is("of a ring", "63", Nets.siphons(Nets.ring(6)));
        due.answers("siphon(0) first", 63, () -> Nets.ring(6).siphon(0));
        due.answers("trap(63) first", 63, () -> Nets.ring(6).trap(63));
        due.answers("isPromising() first", false, () -> Nets.with(0, 0).isPromising());
        due.answers("siphons() first", 1, () -> Nets.ring(6).siphons());
        MarkingHall hall = Nets.with(3, 0, 0, 0);
        Nets.moves(hall, 0, 0, 1, 1, 1);
        due.is("nothing gives to 0 and 2", "1 4", Nets.siphons(hall));
        Nets.moves(hall, 1, 2, 1, 0, 1);
        due.is("all but 4 need another", "4", Nets.siphons(hall));
        Nets.moves(hall, 2, 1, 1, 2, 1);
        due.is("a ring now", "7", Nets.siphons(hall));
        hall.arc(1, 1, Nets.TAKE, 1);
        due.is("a smaller ring", "3", Nets.siphons(hall));
        hall.arc(2, 2, Nets.TAKE, 2);
        due.is("two of them", "3 4", Nets.siphons(hall));
        hall.arc(0, 1, Nets.GIVE, 0);
        due.is("one of one place", "2 4", Nets.siphons(hall));
        MarkingHall pairs = Nets.with(4, 0, 0, 0, 0);
        Nets.moves(pairs, 0, 0, 1, 3, 1);
        Nets.moves(pairs, 1, 3, 1, 0, 1);
        Nets.moves(pairs, 2, 1, 1, 2, 1);
        Nets.moves(pairs, 3, 2, 1, 1, 1);
        due.is("by their sets as numbers", "6 9", Nets.siphons(pairs));
    }

    private static void siphonsAndOtherArcs() {
        MarkingHall hall = Nets.with(1, 0, 0);
        Nets.moves(hall, 0, 0, 1, 0, 1);
        due.is("it takes from itself", "1 2", Nets.siphons(hall));
        hall.arc(0, 0, Nets.TAKE, 0);
        hall.arc(0, 0, Nets.TEST, 1);
        due.is("TEST is no TAKE", "2", Nets.siphons(hall));
        hall.arc(0, 0, Nets.EMPTY, 1);
        due.is("EMPTY is no TAKE", "2", Nets.siphons(hall));
        hall.arc(0, 1, Nets.HOLD, 1);
        due.is("HOLD is no TAKE", "2", Nets.siphons(hall));
        hall.arc(0, 1, Nets.TAKE, 3);
        due.is("TAKE is", "2", Nets.siphons(hall));
        hall.arc(0, 1, Nets.GIVE, 3);
        hall.arc(0, 0, Nets.TAKE, 1);
        due.is("from one of them is enough", "1 2", Nets.siphons(hall));
    }

    private static void traps() {
        MarkingHall hall = Nets.with(2, 0, 0, 0);
        Nets.moves(hall, 0, 0, 1, 1, 1);
        due.answers("trap(0)", 0, () -> hall.trap(0));
        due.answers("what it takes from alone", 0, () -> hall.trap(1));
        due.answers("what it gives to", 2, () -> hall.trap(2));
        due.answers("both", 3, () -> hall.trap(3));
        due.answers("a place without arcs", 4, () -> hall.trap(4));
        due.answers("that and one it takes from", 4, () -> hall.trap(5));
        due.answers("all", 7, () -> hall.trap(7));
        Nets.moves(hall, 1, 1, 1, 1, 0);
        due.answers("1 drains, and 0 behind it", 4, () -> hall.trap(7));
        hall.arc(1, 2, Nets.GIVE, 1);
        due.answers("into 2", 7, () -> hall.trap(7));
        due.answers("which is not in the set", 0, () -> hall.trap(3));
        due.answers("of firings alone", 0, () -> Nets.with(3).trap(0));
        due.answers("of six places", 63, () -> Nets.ring(6).trap(63));
        due.answers("of five of six", 0, () -> Nets.ring(6).trap(31));
    }

    private static void trapsAndEmpty() {
        MarkingHall hall = Nets.with(1, 0, 0);
        hall.arc(0, 0, Nets.EMPTY, 1);
        due.answers("emptied", 2, () -> hall.trap(3));
        hall.arc(0, 1, Nets.GIVE, 1);
        due.answers("emptied, and given to another", 3, () -> hall.trap(3));
        due.answers("that is not in the set", 0, () -> hall.trap(1));
        hall.arc(0, 0, Nets.GIVE, 1);
        due.answers("emptied and given", 1, () -> hall.trap(1));
        MarkingHall others = Nets.with(1, 0, 0);
        others.arc(0, 0, Nets.TEST, 3);
        others.arc(0, 1, Nets.HOLD, 3);
        due.answers("TEST and HOLD take nothing", 3, () -> others.trap(3));
    }

    private static void trapsStepByStep() {
        // Each place is drained into the next one; the lower the firing, the
        // later its place is found to be no part.
        MarkingHall hall = Nets.with(6, 0, 0, 0, 0, 0, 0);
        for (int p = 0; p < 6; p++) {
            hall.arc(p, p, Nets.TAKE, 1);
            if (p < 5) {
                hall.arc(p, p + 1, Nets.GIVE, 1);
            }
        }
        due.answers("all are drained", 0, () -> hall.trap(63));
        hall.arc(5, 3, Nets.GIVE, 1);
        due.answers("none is", 63, () -> hall.trap(63));
        due.answers("four are a part", 56, () -> hall.trap(56));
        due.answers("one of the rest drains", 0, () -> hall.trap(55));
    }

    private static void promising() {
        due.answers("nothing", true, () -> new MarkingHall().isPromising());
        due.answers("a ring", true, () -> Nets.ring(3).isPromising());
        due.answers("a place without a token", false, () -> Nets.with(0, 1, 0).isPromising());
        due.answers("with one each", true, () -> Nets.with(0, 1, 2).isPromising());
        MarkingHall hall = Nets.with(2, 3, 0);
        Nets.moves(hall, 0, 0, 1, 1, 1);
        due.answers("a siphon without a trap", false, hall::isPromising);
        Nets.moves(hall, 1, 1, 1, 0, 1);
        due.answers("a siphon that is a trap", true, hall::isPromising);
        hall.arc(0, 0, Nets.TAKE, 2);
        hall.arc(0, 0, Nets.GIVE, 1);
        due.answers("weights do not matter", true, hall::isPromising);
        MarkingHall empty = Nets.with(2, 0, 0, 1);
        Nets.moves(empty, 0, 0, 1, 1, 1);
        Nets.moves(empty, 1, 1, 1, 0, 1);
        due.answers("a trap without a token", false, empty::isPromising);
        partOfASiphon();
        behindAFiring();
    }

    private static void partOfASiphon() {
        // The siphon 3 has the trap 2 in it: the token must be in that.
        MarkingHall hall = Nets.with(3, 1, 0);
        Nets.moves(hall, 0, 1, 1, 0, 1);
        hall.arc(0, 1, Nets.GIVE, 1);
        Nets.moves(hall, 1, 0, 1, 1, 1);
        hall.arc(2, 0, Nets.TAKE, 1);
        due.is("its siphon", "3", Nets.siphons(hall));
        due.answers("its trap", 2, () -> hall.trap(3));
        due.answers("the token is beside the trap", false, hall::isPromising);
        hall.fire(1);
        due.answers("the token is in the trap", true, hall::isPromising);
        MarkingHall other = Nets.with(3, 1, 0);
        Nets.moves(other, 0, 1, 1, 0, 1);
        Nets.moves(other, 1, 0, 1, 1, 1);
        Nets.moves(other, 2, 0, 1, 0, 0);
        due.is("one siphon", "3", Nets.siphons(other));
        due.answers("without a trap", 0, () -> other.trap(3));
        due.answers("has a token, but no trap", false, other::isPromising);
    }

    private static void behindAFiring() {
        MarkingHall hall = Nets.with(1, 1, 1);
        Nets.moves(hall, 0, 0, 1, 0, 0);
        hall.arc(0, 0, Nets.TAKE, 0);
        hall.arc(0, 0, Nets.EMPTY, 1);
        due.answers("emptied is no trap", false, hall::isPromising);
        hall.arc(0, 0, Nets.EMPTY, 0);
        due.answers("not emptied is one", true, hall::isPromising);
        MarkingHall now = Nets.with(1, 1, 1);
        Nets.moves(now, 0, 0, 1, 1, 1);
        now.arc(0, 1, Nets.TAKE, 1);
        due.is("both are siphons", "1 2", Nets.siphons(now));
        due.answers("one has no trap", false, now::isPromising);
    }

    private static void wrongArguments() {
        MarkingHall hall = Nets.ring(3);
        for (int wrong : new int[] {-1, 1, 7, Integer.MIN_VALUE, Integer.MAX_VALUE}) {
            due.noSuch("siphon(" + wrong + ")", () -> hall.siphon(wrong));
        }
        for (int wrong : new int[] {-1, 8, 15, 64, -8, Integer.MIN_VALUE, Integer.MAX_VALUE}) {
            due.outOfRange("trap(" + wrong + ")", () -> hall.trap(wrong));
        }
        due.noSuch("siphon(0) of nothing", () -> new MarkingHall().siphon(0));
        due.outOfRange("trap(1) of nothing", () -> new MarkingHall().trap(1));
        due.outOfRange("trap(-1) of nothing", () -> new MarkingHall().trap(-1));
        due.answers("trap(0) of nothing", 0, () -> new MarkingHall().trap(0));
        due.outOfRange("trap(64) of six places", () -> Nets.ring(6).trap(64));
    }
}
