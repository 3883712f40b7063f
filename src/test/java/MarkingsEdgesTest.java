/**
 * Promises 8 to 13 and the terms of all markings: a test for each sentence
 * that names a boundary. The sentence stands above its test.
 */
public final class MarkingsEdgesTest {
    private static final Due due = new Due();
    private static final int NONE = MarkingHall.NONE;
    private static final int[] FAR = {256, 300, 1000, 1 << 16, 1 << 29, Integer.MAX_VALUE};
    private static final int[] BELOW = {-1, -2, -256, Integer.MIN_VALUE};

    public static void main(String[] args) {
        thatOneWithThem();
        tooGreatIfMoreThan300();
        tooGreatByTheLastOne();
        tooGreatIsOfMarkingsAlone();
        noneIfTooGreat();
        tooGreatFollowsTheNet();
        foundInBreadth();
        eachFoundOnce();
        whatFrom0To3();
        ends();
        home();
        levels();
        levelOfThatOneItself();
        markingsFrom0On();
        most();
        wishesFrom0To99();
        wishThatIsSo();
        wishWithoutAWay();
        stepsFrom0On();
        lowestOfSeveral();
        due.end();
    }

    private static void graphIs(String net, MarkingHall hall, int markings, int pairs, int ends, int home) {
        due.answers(net + ": graph(0)", markings, () -> hall.graph(0));
        due.answers(net + ": graph(1)", pairs, () -> hall.graph(1));
        due.answers(net + ": graph(2)", ends, () -> hall.graph(2));
        due.answers(net + ": graph(3)", home, () -> hall.graph(3));
    }

    private static void isTooGreat(String net, MarkingHall hall) {
        graphIs(net, hall, NONE, NONE, NONE, NONE);
    }

    /** A marking as digits, those of all places; without digits where it is none. */
    private static String marking(MarkingHall hall, int marking, int places) {
        StringBuilder all = new StringBuilder();
        for (int p = 0; p < places; p++) {
            int tokens = hall.marking(marking, p);
            all.append(tokens < 0 ? "-" : tokens);
        }
        return all.toString();
    }

    private static void markingsAre(String net, MarkingHall hall, String... found) {
        int places = found[0].length();
        for (int m = 0; m < found.length; m++) {
            due.is(net + ": marking " + m, found[m], marking(hall, m, places));
        }
        due.answers(net + ": how many", found.length, () -> hall.graph(0));
        due.answers(net + ": one more", NONE, () -> hall.marking(found.length, 0));
    }

    /** Tokens to and fro between two places, and between two more: (first + 1) * (second + 1) markings. */
    private static MarkingHall swinging(int first, int second) {
        MarkingHall hall = Nets.with(4, first, 0, second, 0);
        for (int p = 0; p < 4; p++) {
            Nets.moves(hall, p, p, 1, p ^ 1, 1);
        }
        return hall;
    }

    /** Two places that lose tokens one by one: (first + 1) * (second + 1) markings. */
    private static MarkingHall draining(int firings, int first, int second) {
        MarkingHall hall = Nets.with(firings, first, second, 0);
        hall.arc(0, 0, Nets.TAKE, 1);
        hall.arc(1, 1, Nets.TAKE, 1);
        return hall;
    }

    /** The last firing leads from where both have none to one marking more. */
    private static MarkingHall drainingAndOne(int first, int second) {
        MarkingHall hall = draining(3, first, second);
        for (int p = 0; p < 3; p++) {
            hall.arc(2, p, Nets.HOLD, 1);
        }
        hall.arc(2, 2, Nets.GIVE, 1);
        return hall;
    }

    /** "by any number of FIRINGS, that one with them" */
    private static void thatOneWithThem() {
        graphIs("none can be done", Nets.with(0, 3), 1, 0, 1, 1);
        MarkingHall hall = Nets.with(1, 1);
        hall.arc(0, 0, Nets.TAKE, 1);
        graphIs("left for good", hall, 2, 1, 1, 0);
        markingsAre("left for good", hall, "1", "0");
        hall.fire(0);
        graphIs("behind it", hall, 1, 0, 1, 1);
        markingsAre("behind it", hall, "0");
    }

    /** "it is TOO GREAT, if they are more than 300" */
    private static void tooGreatIfMoreThan300() {
        graphIs("23 * 13 = 299", swinging(22, 12), 299, 44 * 13 + 24 * 23, 0, 1);
        graphIs("5 * 60 = 300", swinging(4, 59), 300, 8 * 60 + 118 * 5, 0, 1);
        isTooGreat("7 * 43 = 301", swinging(6, 42));
        isTooGreat("16 * 19 = 304", swinging(15, 18));
        graphIs("draining 3 * 100 = 300", draining(2, 2, 99), 300, 2 * 100 + 99 * 3, 1, 0);
        isTooGreat("draining 7 * 43 = 301", draining(2, 6, 42));
        isTooGreat("draining 100 * 100", draining(2, 99, 99));
        isTooGreat("growing 100 * 100", Nets.growing(0, 0));
        isTooGreat("growing 100 to the sixth", Nets.growing(0, 0, 0, 0, 0, 0));
        MarkingHall hall = swinging(4, 59);
        due.is("the last of 300", "04059", marking(hall, 299, 4));
        due.is("none behind it", "----", marking(hall, 300, 4));
        due.answers("most of 300", 59, () -> hall.most(3));
        due.answers("level in 300", 2, () -> hall.level(3));
        due.answers("the longest way in 300", 59, () -> hall.way(3, 59));
        due.answers("its last step", 2, () -> hall.step(3, 59, 58));
        due.answers("300 keep", true, hall::keeps);
        hall.log(1);
        due.answers("cost in 300", 1, hall::cost);
    }

    /** The three hundred and first is found by the last firing of the three hundredth. */
    private static void tooGreatByTheLastOne() {
        graphIs("299 and one", drainingAndOne(12, 22), 300, 12 * 23 + 22 * 13 + 1, 1, 0);
        due.is("the one", "001", marking(drainingAndOne(12, 22), 299, 3));
        isTooGreat("300 and one", drainingAndOne(2, 99));
        MarkingHall hall = drainingAndOne(2, 99);
        hall.arc(2, 2, Nets.GIVE, 0);
        graphIs("300 and none, as it gives nothing", hall, 300, 2 * 100 + 99 * 3 + 1, 0, 0);
        hall.arc(2, 0, Nets.GIVE, 1);
        graphIs("300 and back", hall, 300, 2 * 100 + 99 * 3 + 1, 0, 0);
        hall.arc(2, 2, Nets.GIVE, 1);
        isTooGreat("300 and beside", hall);
    }

    /** It is the markings that are counted, not the firings that can be done in them. */
    private static void tooGreatIsOfMarkingsAlone() {
        graphIs("six firings without arcs", draining(8, 2, 99), 300, 2 * 100 + 99 * 3 + 6 * 300, 0, 0);
        MarkingHall hall = draining(8, 2, 99);
        for (int f = 2; f < 8; f++) {
            hall.arc(f, 0, Nets.EMPTY, 1);
        }
        graphIs("six firings that empty", hall, 300, 2 * 100 + 99 * 3 + 6 * 300, 0, 0);
        graphIs("eight firings in one marking", Nets.with(8, 5), 1, 8, 0, 1);
    }

    /** "Returns NONE if it is TOO GREAT." */
    private static void noneIfTooGreat() {
        MarkingHall hall = drainingAndOne(2, 99);
        for (int m : new int[] {0, 1, 299, 300, 301, Integer.MAX_VALUE}) {
            due.is("marking " + m, "---", marking(hall, m, 3));
        }
        for (int i = 0; i < 3; i++) {
            int at = i;
            due.answers("most(" + i + ")", NONE, () -> hall.most(at));
            due.answers("level(" + i + ")", NONE, () -> hall.level(at));
            due.answers("way(" + i + ", 0), though it is so", NONE, () -> hall.way(at, 0));
            due.answers("way(" + i + ", 1)", NONE, () -> hall.way(at, 1));
            due.answers("step(" + i + ", 1, 0)", NONE, () -> hall.step(at, 1, 0));
        }
        due.answers("cost of none", NONE, hall::cost);
        hall.log(0);
        due.answers("cost of one that can be done", NONE, hall::cost);
        due.answers("true, if it is TOO GREAT", true, hall::keeps);
        due.answers("what does not ask THE GRAPH: goes", 1, hall::goes);
        due.answers("tokens", 99, () -> hall.tokens(1));
        due.answers("can", true, () -> hall.can(1));
        due.is("rows", "", Nets.rows(hall, 3));
        due.is("siphons", "1 2", Nets.siphons(hall));
        for (int wrong : BELOW) {
            due.outOfRange("graph(" + wrong + ")", () -> hall.graph(wrong));
            due.outOfRange("marking(" + wrong + ", 0)", () -> hall.marking(wrong, 0));
            due.outOfRange("way(0, " + wrong + ")", () -> hall.way(0, wrong));
            due.outOfRange("step(0, 0, " + wrong + ")", () -> hall.step(0, 0, wrong));
            due.noSuch("most(" + wrong + ")", () -> hall.most(wrong));
            due.noSuch("level(" + wrong + ")", () -> hall.level(wrong));
        }
    }

    private static void tooGreatFollowsTheNet() {
        MarkingHall hall = drainingAndOne(2, 99);
        isTooGreat("at first", hall);
        hall.fire(1);
        due.answers("less by three behind a firing", 298, () -> hall.graph(0));
        hall.place(0);
        hall.firing();
        due.answers("a place and a firing more", 298, () -> hall.graph(0));
        hall.arc(3, 3, Nets.GIVE, 1);
        due.answers("behind an arc", NONE, () -> hall.graph(0));
        hall.arc(3, 0, Nets.TEST, 3);
        due.answers("behind one more", 298, () -> hall.graph(0));
        MarkingHall growing = Nets.growing(97, 0);
        due.answers("300", 300, () -> growing.graph(0));
        growing.firing();
        growing.arc(2, 0, Nets.TAKE, 1);
        due.answers("400 to 10000", NONE, () -> growing.graph(0));
        growing.arc(2, 0, Nets.TEST, 3);
        growing.arc(0, 0, Nets.HOLD, 3);
        growing.arc(2, 0, Nets.HOLD, 3);
        due.answers("100 of one place", 100, () -> growing.graph(0));
    }

    /** "They are found in breadth: the one of now is the first; behind each, as it was found, ..." */
    private static void foundInBreadth() {
        MarkingHall hall = Nets.with(5, 1, 0, 0, 0, 0, 0);
        Nets.moves(hall, 1, 0, 1, 1, 1);
        Nets.moves(hall, 4, 0, 1, 2, 1);
        Nets.moves(hall, 0, 2, 1, 3, 1);
        Nets.moves(hall, 2, 1, 1, 4, 1);
        Nets.moves(hall, 3, 1, 1, 5, 1);
        // Behind 1 come 2 and 3, and only then 0 behind 4.
        markingsAre("in breadth", hall, "100000", "010000", "001000", "000010", "000001", "000100");
        hall.fire(1);
        markingsAre("from the one of now", hall, "010000", "000010", "000001");
    }

    /** "those to which its FIRINGS, by rising numbers, lead and that were not found yet" */
    private static void eachFoundOnce() {
        MarkingHall hall = Nets.with(8, 2, 0, 0);
        for (int f = 0; f < 8; f++) {
            Nets.moves(hall, f, 0, 1, f < 3 ? 2 : 1, 1);
        }
        markingsAre("eight firings to two", hall, "200", "101", "110", "002", "011", "020");
        graphIs("eight firings to two", hall, 6, 3 * 8, 3, 0);
        MarkingHall round = Nets.ring(3);
        markingsAre("a ring", round, "100", "010", "001");
        round.fire(0);
        markingsAre("a ring from its second one", round, "010", "001", "100");
        round.fire(1);
        round.fire(2);
        markingsAre("a ring that is round", round, "100", "010", "001");
    }

    /** "what: 0 to 3" */
    private static void whatFrom0To3() {
        MarkingHall hall = Nets.ring(2);
        graphIs("a ring of two", hall, 2, 2, 0, 1);
        for (int wrong : BELOW) {
            due.outOfRange("graph(" + wrong + ")", () -> hall.graph(wrong));
        }
        for (int wrong : new int[] {4, 5, 256, 1 << 30, Integer.MAX_VALUE}) {
            due.outOfRange("graph(" + wrong + ")", () -> hall.graph(wrong));
            due.outOfRange("graph(" + wrong + ") of nothing", () -> new MarkingHall().graph(wrong));
        }
    }

    /** "A MARKING is an END, if no FIRING can be done in it." */
    private static void ends() {
        due.answers("nothing is an end", 1, () -> new MarkingHall().graph(2));
        due.answers("places alone are one", 1, () -> Nets.with(0, 1).graph(2));
        due.answers("a firing without arcs is no end", 0, () -> Nets.with(1).graph(2));
        MarkingHall full = Nets.growing(99, 98);
        due.answers("99 is an end of growing", 1, () -> full.graph(2));
        due.answers("and one marking before it", 2, () -> full.graph(0));
        MarkingHall testing = Nets.with(1, 1);
        testing.arc(0, 0, Nets.TEST, 1);
        due.answers("one that only looks is no end", 0, () -> testing.graph(2));
        testing.arc(0, 0, Nets.TEST, 2);
        due.answers("but where it cannot be done", 1, () -> testing.graph(2));
        MarkingHall emptying = Nets.with(1, 0);
        emptying.arc(0, 0, Nets.EMPTY, 1);
        due.answers("to empty none is no end", 0, () -> emptying.graph(2));
        MarkingHall all = Nets.with(8, 1, 0, 0, 0, 0, 0);
        for (int f = 0; f < 5; f++) {
            Nets.moves(all, f, 0, 1, f + 1, 1);
        }
        for (int f = 5; f < 8; f++) {
            all.arc(f, 0, Nets.TAKE, 1);
        }
        graphIs("all but the first are ends", all, 7, 8, 6, 0);
    }

    /** "THE GRAPH is HOME, if from each of its MARKINGS one can come to the one of now." */
    private static void home() {
        due.answers("alone", 1, () -> Nets.with(0, 1).graph(3));
        due.answers("one firing that changes nothing", 1, () -> Nets.with(1).graph(3));
        due.answers("a long way back", 1, () -> Nets.ring(6).graph(3));
        for (int p = 0; p < 5; p++) {
            MarkingHall hall = Nets.ring(5);
            hall.place(0);
            hall.firing();
            Nets.moves(hall, 5, p, 1, 5, 1);
            due.answers("no way back from one, out of place " + p, 0, () -> hall.graph(3));
            hall.firing();
            Nets.moves(hall, 6, 5, 1, p, 1);
            due.answers("a way back", 1, () -> hall.graph(3));
            hall.arc(6, 4, Nets.TEST, 1);
            due.answers("but it is barred", 0, () -> hall.graph(3));
        }
        MarkingHall into = Nets.with(3, 1, 0, 0);
        Nets.moves(into, 0, 0, 1, 1, 1);
        Nets.moves(into, 1, 1, 1, 2, 1);
        Nets.moves(into, 2, 2, 1, 1, 1);
        due.answers("only the one of now is not come to", 0, () -> into.graph(3));
        into.fire(0);
        due.answers("it is no more", 1, () -> into.graph(3));
    }

    /** "The LEVEL of a FIRING is 0, if ... no MARKING of THE GRAPH; 2, if from each ...; otherwise 1." */
    private static void levels() {
        MarkingHall hall = Nets.with(8, 1, 0, 0, 0);
        Nets.moves(hall, 7, 0, 1, 1, 1);
        Nets.moves(hall, 6, 1, 1, 2, 1);
        Nets.moves(hall, 5, 2, 1, 1, 1);
        Nets.moves(hall, 4, 1, 1, 3, 1);
        hall.arc(3, 3, Nets.TEST, 1);
        hall.arc(2, 3, Nets.TEST, 2);
        hall.arc(1, 0, Nets.HOLD, 1);
        int[] levels = {2, 2, 0, 2, 1, 1, 1, 1};
        for (int f = 0; f < 8; f++) {
            int firing = f;
            due.answers("level of " + f, levels[f], () -> hall.level(firing));
        }
        hall.arc(4, 1, Nets.TEST, 2);
        int[] behind = {2, 2, 0, 0, 0, 2, 2, 1};
        for (int f = 0; f < 8; f++) {
            int firing = f;
            due.answers("without the way to place 3, level of " + f, behind[f], () -> hall.level(firing));
        }
        MarkingHall fork = Nets.with(4, 1, 0, 0);
        Nets.moves(fork, 0, 0, 1, 1, 1);
        Nets.moves(fork, 1, 0, 1, 2, 1);
        fork.arc(2, 1, Nets.TEST, 1);
        fork.arc(3, 2, Nets.TEST, 1);
        due.answers("in one of two last ones", 1, () -> fork.level(2));
        due.answers("in the other one", 1, () -> fork.level(3));
        fork.arc(2, 1, Nets.TEST, 0);
        fork.arc(2, 0, Nets.HOLD, 1);
        due.answers("in both", 2, () -> fork.level(2));
    }

    /** "if from each MARKING of THE GRAPH one can come to one (perhaps that one itself)" */
    private static void levelOfThatOneItself() {
        due.answers("without places", 2, () -> Nets.with(1).level(0));
        due.answers("the last of eight without places", 2, () -> Nets.with(8).level(7));
        MarkingHall hall = Nets.with(3, 1, 0);
        Nets.moves(hall, 0, 0, 1, 1, 1);
        hall.arc(1, 1, Nets.TEST, 1);
        hall.arc(2, 0, Nets.TEST, 1);
        due.answers("in the last one, that is never left", 2, () -> hall.level(1));
        due.answers("in the first one, that is left for good", 1, () -> hall.level(2));
        due.answers("out of the first one", 1, () -> hall.level(0));
        hall.arc(0, 0, Nets.TEST, 2);
        due.answers("the first one is not left", 2, () -> hall.level(2));
        due.answers("and the last one not come to", 0, () -> hall.level(1));
        MarkingHall ring = Nets.ring(6);
        for (int f = 0; f < 6; f++) {
            int firing = f;
            due.answers("firing " + f + " of a ring, come to by the others", 2, () -> ring.level(firing));
        }
    }

    /** "marking: from 0 on, as they are found"; "NONE if it ... has not so many"; "if marking is below 0" */
    private static void markingsFrom0On() {
        MarkingHall ring = Nets.ring(6);
        markingsAre("a ring of six", ring, "100000", "010000", "001000", "000100", "000010", "000001");
        for (int far : FAR) {
            due.answers("marking(" + far + ", 5)", NONE, () -> ring.marking(far, 5));
            due.answers("marking(" + far + ", 0) of one", NONE, () -> Nets.with(0, 7).marking(far, 0));
        }
        for (int below : BELOW) {
            due.outOfRange("marking(" + below + ", 5)", () -> ring.marking(below, 5));
            due.noSuch("marking(" + below + ", 6)", () -> ring.marking(below, 6));
        }
        due.noSuch("marking(0, 6)", () -> ring.marking(0, 6));
        due.noSuch("marking(6, 6)", () -> ring.marking(6, 6));
        due.noSuch("marking(0, 0) without places", () -> Nets.with(1).marking(0, 0));
        markingsAre("one marking", Nets.with(0, 7), "7");
    }

    /** "the most TOKENS that a PLACE has in a MARKING of THE GRAPH" */
    private static void most() {
        MarkingHall hall = Nets.with(3, 3, 0, 0, 99, 0, 96);
        Nets.moves(hall, 0, 0, 1, 1, 1);
        hall.arc(1, 1, Nets.EMPTY, 1);
        hall.arc(1, 2, Nets.GIVE, 3);
        hall.arc(1, 1, Nets.TEST, 3);
        hall.arc(2, 5, Nets.GIVE, 3);
        due.answers("only in the one of now", 3, () -> hall.most(0));
        due.answers("only between", 3, () -> hall.most(1));
        due.answers("only in the last one", 3, () -> hall.most(2));
        due.answers("always 99", 99, () -> hall.most(3));
        due.answers("never one", 0, () -> hall.most(4));
        due.answers("up to 99", 99, () -> hall.most(5));
        hall.fire(2);
        due.answers("no higher", 99, () -> hall.most(5));
        due.answers("97 and not 100", 97, () -> upBy3(97).most(0));
        due.answers("95, 98 and not 101", 98, () -> upBy3(95).most(0));
        due.answers("96, 99 and not 102", 99, () -> upBy3(96).most(0));
    }

    private static MarkingHall upBy3(int tokens) {
        MarkingHall hall = Nets.with(1, tokens);
        hall.arc(0, 0, Nets.GIVE, 3);
        return hall;
    }

    /** "tokens: 0 to 99" */
    private static void wishesFrom0To99() {
        MarkingHall hall = Nets.with(1, 99, 0);
        Nets.moves(hall, 0, 0, 1, 1, 1);
        due.answers("way(0, 0)", 0, () -> hall.way(0, 0));
        due.answers("way(0, 99)", 0, () -> hall.way(0, 99));
        due.answers("way(1, 0)", 0, () -> hall.way(1, 0));
        due.answers("way(1, 99)", 99, () -> hall.way(1, 99));
        due.answers("step(1, 99, 98)", 0, () -> hall.step(1, 99, 98));
        due.answers("step(1, 0, 0)", NONE, () -> hall.step(1, 0, 0));
        for (int wrong : new int[] {-1, -256, Integer.MIN_VALUE, 100, 101, 255, 256, 1 << 16, Integer.MAX_VALUE}) {
            for (int p = 0; p < 2; p++) {
                int place = p;
                due.outOfRange("way(" + p + ", " + wrong + ")", () -> hall.way(place, wrong));
                due.outOfRange("step(" + p + ", " + wrong + ", 0)", () -> hall.step(place, wrong, 0));
            }
        }
    }

    /** "that a PLACE has at least some TOKENS": where it is so by now, the WAY has no FIRINGS. */
    private static void wishThatIsSo() {
        MarkingHall hall = Nets.with(1, 2, 50);
        Nets.moves(hall, 0, 1, 1, 0, 3);
        for (int wish = 0; wish <= 6; wish++) {
            int tokens = wish;
            int way = wish <= 2 ? 0 : wish <= 5 ? 1 : 2;
            due.answers("way to " + wish, way, () -> hall.way(0, tokens));
            due.answers("its first step", way > 0 ? 0 : NONE, () -> hall.step(0, tokens, 0));
            due.answers("its second step", way > 1 ? 0 : NONE, () -> hall.step(0, tokens, 1));
            due.answers("its third step", NONE, () -> hall.step(0, tokens, 2));
        }
        due.answers("way to 50 that it has", 0, () -> hall.way(1, 50));
        due.answers("way to 51 that it never has", NONE, () -> hall.way(1, 51));
    }

    /** "Returns NONE without one"; "NONE if it has not so many, or there is none" */
    private static void wishWithoutAWay() {
        MarkingHall hall = Nets.with(2, 3, 0, 0);
        Nets.moves(hall, 0, 0, 1, 1, 1);
        hall.arc(1, 2, Nets.GIVE, 1);
        hall.arc(1, 0, Nets.TEST, 3);
        hall.arc(1, 2, Nets.HOLD, 1);
        due.answers("the most it has", 3, () -> hall.way(1, 3));
        due.answers("one more", NONE, () -> hall.way(1, 4));
        due.answers("its first step", NONE, () -> hall.step(1, 4, 0));
        due.answers("its step 3", NONE, () -> hall.step(1, 4, 3));
        due.answers("one that is possible now", 1, () -> hall.way(2, 1));
        hall.fire(0);
        due.answers("and is no more", NONE, () -> hall.way(2, 1));
        due.answers("nor has steps", NONE, () -> hall.step(2, 1, 0));
        due.answers("without firings", NONE, () -> Nets.with(0, 5).way(0, 6));
        due.answers("without firings it is so", 0, () -> Nets.with(0, 5).way(0, 5));
    }

    /** "step: 0 for the first one"; "step is below 0" */
    private static void stepsFrom0On() {
        MarkingHall ring = Nets.ring(6);
        for (int p = 0; p < 6; p++) {
            int place = p;
            due.answers("way to place " + p, p, () -> ring.way(place, 1));
            for (int s = 0; s <= 6; s++) {
                int step = s;
                due.answers("step " + s + " to place " + p, s < p ? s : NONE, () -> ring.step(place, 1, step));
            }
            for (int far : FAR) {
                due.answers("step " + far + " to place " + p, NONE, () -> ring.step(place, 1, far));
            }
            for (int below : BELOW) {
                due.outOfRange("step " + below + " to place " + p, () -> ring.step(place, 1, below));
                due.outOfRange("step " + below + " without a way", () -> ring.step(place, 2, below));
            }
        }
    }

    /** "of several the one whose first FIRING is the lowest, then the second one, and so on" */
    private static void lowestOfSeveral() {
        MarkingHall hall = Nets.with(8, 1, 0, 0, 0, 0, 0);
        Nets.moves(hall, 1, 0, 1, 1, 1);
        Nets.moves(hall, 7, 1, 1, 3, 1);
        Nets.moves(hall, 6, 3, 1, 5, 1);
        Nets.moves(hall, 2, 0, 1, 2, 1);
        Nets.moves(hall, 0, 2, 1, 4, 1);
        Nets.moves(hall, 3, 4, 1, 5, 1);
        stepsAre("the lowest first, 1 7 6, not 2 0 3", hall, 1, 7, 6);
        Nets.moves(hall, 4, 1, 1, 4, 1);
        stepsAre("then the lowest second, 1 4 3, not 1 7 6", hall, 1, 4, 3);
        Nets.moves(hall, 5, 4, 1, 5, 1);
        stepsAre("then the lowest third, 1 4 3, not 1 4 5", hall, 1, 4, 3);
        hall.arc(3, 5, Nets.GIVE, 0);
        stepsAre("1 4 5, as 3 gives nothing", hall, 1, 4, 5);
        hall.arc(1, 2, Nets.TEST, 1);
        stepsAre("2 0 5, as 1 is barred", hall, 2, 0, 5);
        hall.arc(7, 1, Nets.TAKE, 0);
        hall.arc(7, 3, Nets.GIVE, 0);
        Nets.moves(hall, 7, 0, 1, 5, 1);
        stepsAre("fewer go before lower", hall, 7);
    }

    private static void stepsAre(String title, MarkingHall hall, int... firings) {
        due.answers(title + ", how many", firings.length, () -> hall.way(5, 1));
        for (int s = 0; s < firings.length; s++) {
            int step = s;
            due.answers(title + ", step " + s, firings[s], () -> hall.step(5, 1, step));
        }
        due.answers(title + ", no more", NONE, () -> hall.step(5, 1, firings.length));
    }
}
