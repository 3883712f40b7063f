/** Promises 8 to 13: graph, marking, most, level, way, step. */
public final class MarkingsTest {
    private static final Due due = new Due();
    private static final int NONE = MarkingHall.NONE;

    public static void main(String[] args) {
        withoutPlaces();
        ring();
        pairsAndEnds();
        exactly300();
        tooGreat();
        order();
        most();
        home();
        levels();
        ways();
        lowestWay();
        followsChanges();
        askedFirst();
        askedInTurn();
        wrongArguments();
        due.end();
    }

    private static void graphIs(String net, MarkingHall hall, int markings, int pairs, int ends, int home) {
        due.answers(net + ": graph(0)", markings, () -> hall.graph(0));
        due.answers(net + ": graph(1)", pairs, () -> hall.graph(1));
        due.answers(net + ": graph(2)", ends, () -> hall.graph(2));
        due.answers(net + ": graph(3)", home, () -> hall.graph(3));
    }

    private static void withoutPlaces() {
        graphIs("nothing", new MarkingHall(), 1, 0, 1, 1);
        graphIs("firings alone", Nets.with(3), 1, 3, 0, 1);
        graphIs("places alone", Nets.with(0, 4, 5), 1, 0, 1, 1);
        due.answers("level without places", 2, () -> Nets.with(1).level(0));
    }

    private static void ring() {
        MarkingHall hall = Nets.ring(4);
        graphIs("ring", hall, 4, 4, 0, 1);
        for (int m = 0; m < 4; m++) {
            for (int p = 0; p < 4; p++) {
                int marking = m;
                int place = p;
                due.answers("ring: marking " + m, m == p ? 1 : 0, () -> hall.marking(marking, place));
            }
        }
        due.answers("ring: a fifth marking", NONE, () -> hall.marking(4, 0));
        due.answers("ring: the last int", NONE, () -> hall.marking(Integer.MAX_VALUE, 3));
    }

    private static void pairsAndEnds() {
        MarkingHall hall = Nets.with(2, 2, 0, 0);
        Nets.moves(hall, 0, 0, 1, 1, 1);
        Nets.moves(hall, 1, 0, 2, 2, 1);
        // 200 -0-> 110 -0-> 020, 200 -1-> 001
        graphIs("two ends", hall, 4, 3, 2, 0);
        hall.firing();
        graphIs("a firing without arcs", hall, 4, 7, 0, 0);
        MarkingHall two = Nets.with(2, 1, 0);
        Nets.moves(two, 0, 0, 1, 1, 1);
        Nets.moves(two, 1, 0, 1, 1, 1);
        graphIs("two firings to one marking", two, 2, 2, 1, 0);
    }

    private static void exactly300() {
        MarkingHall fits = Nets.growing(50, 94);
        graphIs("50 by 6", fits, 300, 49 * 6 + 50 * 5, 1, 0);
        due.answers("the last marking", 99, () -> fits.marking(299, 0));
        due.answers("one behind it", NONE, () -> fits.marking(300, 0));
        due.answers("the longest way", 49, () -> fits.way(0, 99));
        due.answers("level of 300", 1, () -> fits.level(1));
        MarkingHall round = Nets.growing(50, 94);
        round.firing();
        round.arc(2, 0, Nets.TAKE, 1);
        round.fire(2);
        due.answers("51 by 6", NONE, () -> round.graph(0));
        round.arc(0, 0, Nets.TEST, 3);
        round.fire(0);
        round.arc(2, 0, Nets.TAKE, 0);
        graphIs("300 and a firing without arcs", round, 300, 49 * 6 + 50 * 5 + 300, 0, 0);
    }

    private static void tooGreat() {
        MarkingHall hall = Nets.growing(57, 93);
        for (int what = 0; what <= 3; what++) {
            int w = what;
            due.answers("43 by 7: graph(" + what + ")", NONE, () -> hall.graph(w));
        }
        due.answers("marking(0, 0)", NONE, () -> hall.marking(0, 0));
        due.answers("most(0)", NONE, () -> hall.most(0));
        due.answers("level(0)", NONE, () -> hall.level(0));
        due.answers("way(0, 0)", NONE, () -> hall.way(0, 0));
        due.answers("step(0, 58, 0)", NONE, () -> hall.step(0, 58, 0));
        due.outOfRange("graph(4) of the too great one", () -> hall.graph(4));
        due.outOfRange("marking(-1, 0) of it", () -> hall.marking(-1, 0));
        due.noSuch("most(2) of it", () -> hall.most(2));
        due.noSuch("level(2) of it", () -> hall.level(2));
        due.outOfRange("way(0, 100) of it", () -> hall.way(0, 100));
        due.outOfRange("step(0, 1, -1) of it", () -> hall.step(0, 1, -1));
        hall.fire(0);
        due.answers("42 by 7", 294, () -> hall.graph(0));
    }

    private static void order() {
        MarkingHall hall = Nets.with(3, 2, 0, 0, 0);
        Nets.moves(hall, 2, 0, 1, 1, 1);
        Nets.moves(hall, 0, 0, 1, 2, 1);
        Nets.moves(hall, 1, 0, 1, 3, 1);
        // In breadth, by rising firings, each marking once.
        String[] found = {"2000", "1010", "1001", "1100", "0020", "0011", "0110", "0002", "0101", "0200"};
        due.answers("order: graph(0)", found.length, () -> hall.graph(0));
        for (int m = 0; m < found.length; m++) {
            for (int p = 0; p < 4; p++) {
                int marking = m;
                int place = p;
                due.answers("order: " + m, found[m].charAt(p) - '0', () -> hall.marking(marking, place));
            }
        }
    }

    private static void most() {
        MarkingHall hall = Nets.with(2, 2, 1, 9);
        Nets.moves(hall, 0, 0, 1, 1, 3);
        hall.arc(1, 2, Nets.EMPTY, 1);
        due.answers("most(0)", 2, () -> hall.most(0));
        due.answers("most(1)", 7, () -> hall.most(1));
        due.answers("most(2)", 9, () -> hall.most(2));
        hall.fire(0);
        hall.fire(1);
        due.answers("most(0) later", 1, () -> hall.most(0));
        due.answers("most(2) later", 0, () -> hall.most(2));
    }

    private static void home() {
        MarkingHall hall = Nets.with(2, 1, 0, 0);
        Nets.moves(hall, 0, 0, 1, 1, 1);
        Nets.moves(hall, 1, 1, 1, 0, 1);
        due.answers("there and back", 1, () -> hall.graph(3));
        hall.firing();
        Nets.moves(hall, 2, 1, 1, 2, 1);
        due.answers("with a way out", 0, () -> hall.graph(3));
        hall.firing();
        Nets.moves(hall, 3, 2, 1, 1, 1);
        due.answers("with a way back", 1, () -> hall.graph(3));
        MarkingHall long300 = Nets.with(3, 0, 0);
        long300.arc(0, 0, Nets.GIVE, 1);
        long300.arc(1, 1, Nets.GIVE, 1);
        long300.arc(1, 1, Nets.HOLD, 2);
        long300.arc(2, 0, Nets.TAKE, 1);
        due.answers("100 by 3", 300, () -> long300.graph(0));
        due.answers("100 by 3 is not home", 0, () -> long300.graph(3));
        long300.arc(2, 1, Nets.EMPTY, 1);
        due.answers("100 by 3 is home with EMPTY", 1, () -> long300.graph(3));
        due.answers("100 by 3 is live with EMPTY", 2, () -> long300.level(1));
    }

    private static void levels() {
        MarkingHall hall = Nets.with(4, 1, 0, 0);
        Nets.moves(hall, 0, 0, 1, 1, 1);
        Nets.moves(hall, 1, 1, 1, 0, 1);
        Nets.moves(hall, 2, 1, 1, 2, 1);
        hall.arc(3, 2, Nets.TAKE, 2);
        due.answers("once, not for ever", 1, () -> hall.level(0));
        due.answers("the way back", 1, () -> hall.level(1));
        due.answers("the way out, from not all", 1, () -> hall.level(2));
        due.answers("never", 0, () -> hall.level(3));
        hall.arc(3, 2, Nets.TAKE, 1);
        due.answers("not from the marking behind itself", 1, () -> hall.level(3));
        hall.arc(3, 0, Nets.GIVE, 1);
        for (int f = 0; f < 4; f++) {
            int firing = f;
            due.answers("live " + f, 2, () -> hall.level(firing));
        }
        hall.arc(3, 0, Nets.GIVE, 0);
        hall.arc(3, 2, Nets.TAKE, 0);
        hall.arc(3, 2, Nets.TEST, 1);
        due.answers("from each one can come to it, and stay", 2, () -> hall.level(3));
        due.answers("but not to others", 1, () -> hall.level(0));
    }

    private static void ways() {
        MarkingHall hall = Nets.ring(5);
        for (int p = 0; p < 5; p++) {
            int place = p;
            due.answers("way(" + p + ", 1)", p, () -> hall.way(place, 1));
            for (int s = 0; s <= 5; s++) {
                int step = s;
                due.answers("step(" + p + ", 1, " + s + ")", s < p ? s : NONE, () -> hall.step(place, 1, step));
            }
        }
        due.answers("a wish for none is here", 0, () -> hall.way(4, 0));
        due.answers("without steps", NONE, () -> hall.step(4, 0, 0));
        due.answers("a wish that is never", NONE, () -> hall.way(4, 2));
        due.answers("has no steps", NONE, () -> hall.step(4, 2, 0));
        due.answers("the last int of steps", NONE, () -> hall.step(4, 1, Integer.MAX_VALUE));
        MarkingHall over = Nets.with(1, 0);
        over.arc(0, 0, Nets.GIVE, 3);
        due.answers("at least, not just", 3, () -> over.way(0, 7));
        due.answers("to 99", 33, () -> over.way(0, 99));
    }

    private static void lowestWay() {
        MarkingHall hall = Nets.with(6, 1, 0, 0, 0, 0);
        Nets.moves(hall, 5, 0, 1, 1, 1);
        Nets.moves(hall, 3, 0, 1, 2, 1);
        Nets.moves(hall, 0, 1, 1, 3, 2);
        Nets.moves(hall, 4, 2, 1, 3, 1);
        Nets.moves(hall, 2, 2, 1, 3, 3);
        // To one token the ways are 5 0, 3 4 and 3 2, of the same length.
        due.answers("way(3, 1)", 2, () -> hall.way(3, 1));
        due.answers("the lowest first one", 3, () -> hall.step(3, 1, 0));
        due.answers("then the lowest second one", 2, () -> hall.step(3, 1, 1));
        hall.arc(2, 3, Nets.GIVE, 0);
        due.answers("the other second one", 4, () -> hall.step(3, 1, 1));
        due.answers("two tokens ask another way", 5, () -> hall.step(3, 2, 0));
        due.answers("and its second one", 0, () -> hall.step(3, 2, 1));
        Nets.moves(hall, 1, 0, 1, 4, 1);
        due.answers("a lower firing that leads elsewhere", 3, () -> hall.step(3, 1, 0));
        MarkingHall short2 = Nets.with(3, 2, 0);
        Nets.moves(short2, 0, 0, 1, 1, 1);
        Nets.moves(short2, 1, 0, 2, 1, 3);
        due.answers("fewer before lower", 1, () -> short2.way(1, 2));
        due.answers("by the higher one", 1, () -> short2.step(1, 2, 0));
    }

    private static void followsChanges() {
        MarkingHall hall = Nets.with(1, 3);
        due.answers("at first", 1, () -> hall.graph(0));
        hall.arc(0, 0, Nets.TAKE, 1);
        due.answers("behind an arc", 4, () -> hall.graph(0));
        hall.fire(0);
        due.answers("behind a firing", 3, () -> hall.graph(0));
        due.answers("its first marking", 2, () -> hall.marking(0, 0));
        hall.firing();
        due.answers("behind a new firing", 5, () -> hall.graph(1));
        hall.place(8);
        due.answers("behind a new place", 8, () -> hall.most(1));
        hall.log(0);
        due.answers("behind a log", 3, () -> hall.graph(0));
    }

    /** Each question finds THE GRAPH by itself. */
    private static void askedFirst() {
        due.answers("graph(3) first", 1, () -> Nets.ring(3).graph(3));
        due.answers("marking(2, 2) first", 1, () -> Nets.ring(3).marking(2, 2));
        due.answers("most(2) first", 1, () -> Nets.ring(3).most(2));
        due.answers("level(2) first", 2, () -> Nets.ring(3).level(2));
        due.answers("way(2, 1) first", 2, () -> Nets.ring(3).way(2, 1));
        due.answers("step(2, 1, 1) first", 1, () -> Nets.ring(3).step(2, 1, 1));
        MarkingHall hall = Nets.ring(3);
        for (int turn = 0; turn < 6; turn++) {
            int now = turn % 3;
            due.answers("marking(0) of turn " + turn, 1, () -> hall.marking(0, now));
            hall.fire(now);
        }
    }

    private static void askedInTurn() {
        MarkingHall hall = Nets.with(3, 1, 0, 0);
        Nets.moves(hall, 0, 0, 1, 1, 1);
        Nets.moves(hall, 1, 1, 1, 2, 1);
        hall.arc(2, 0, Nets.TEST, 3);
        for (int turn = 0; turn < 2; turn++) {
            due.answers("level(1)", 1, () -> hall.level(1));
            due.answers("level(2) behind it", 0, () -> hall.level(2));
            due.answers("graph(3) behind it", 0, () -> hall.graph(3));
            due.answers("level(0) behind it", 1, () -> hall.level(0));
        }
        hall.arc(1, 1, Nets.TAKE, 0);
        hall.arc(1, 2, Nets.GIVE, 0);
        due.answers("a firing that changes nothing is live", 2, () -> hall.level(1));
        due.answers("but THE GRAPH is not HOME", 0, () -> hall.graph(3));
    }

    private static void wrongArguments() {
        MarkingHall hall = Nets.with(2, 1, 1, 1);
        for (int wrong : new int[] {-1, 4, Integer.MIN_VALUE, Integer.MAX_VALUE}) {
            due.outOfRange("graph(" + wrong + ")", () -> hall.graph(wrong));
        }
        for (int wrong : new int[] {-1, 3, Integer.MIN_VALUE, Integer.MAX_VALUE}) {
            due.noSuch("marking(0, " + wrong + ")", () -> hall.marking(0, wrong));
            due.noSuch("marking(-1, " + wrong + ")", () -> hall.marking(-1, wrong));
            due.noSuch("most(" + wrong + ")", () -> hall.most(wrong));
            due.noSuch("level(" + wrong + ")", () -> hall.level(wrong));
            due.noSuch("way(" + wrong + ", 100)", () -> hall.way(wrong, 100));
            due.noSuch("step(" + wrong + ", 100, -1)", () -> hall.step(wrong, 100, -1));
        }
        due.noSuch("level(2)", () -> hall.level(2));
        due.outOfRange("marking(-1, 0)", () -> hall.marking(-1, 0));
        due.outOfRange("marking(least int, 0)", () -> hall.marking(Integer.MIN_VALUE, 0));
        for (int wrong : new int[] {-1, 100, Integer.MIN_VALUE, Integer.MAX_VALUE}) {
            due.outOfRange("way(0, " + wrong + ")", () -> hall.way(0, wrong));
            due.outOfRange("step(0, " + wrong + ", 0)", () -> hall.step(0, wrong, 0));
        }
        due.outOfRange("step(0, 0, -1)", () -> hall.step(0, 0, -1));
        due.outOfRange("step(0, 0, least int)", () -> hall.step(0, 0, Integer.MIN_VALUE));
        due.answers("way(0, 99)", NONE, () -> hall.way(0, 99));
    }
}
