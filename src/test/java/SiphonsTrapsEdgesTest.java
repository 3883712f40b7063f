/**
 * Promises 20 to 23 and the terms of siphons and traps: a test for each
 * sentence that names a boundary. The sentence stands above its test.
 */
public final class SiphonsTrapsEdgesTest {
    private static final Due due = new Due();
    private static final int[] FAR = {-1, -2, -64, -256, Integer.MIN_VALUE, 256, 1 << 16, 1 << 29, Integer.MAX_VALUE};

    public static void main(String[] args) {
        notEmpty();
        eachFiringThatGives();
        alsoTakesFromOneOfIt();
        weightsAbove0();
        testAndEmptyAreNoTake();
        leastSiphonsOnly();
        numberedByTheirSets();
        noSuchLeastSiphon();
        perhapsEmpty();
        takesOrEmpties();
        alsoGivesToOneOfIt();
        greatestTrap();
        bitsOfPlacesThatThereAre();
        aTokenNowAtLeast();
        inEachLeastSiphon();
        noneHasIfItIsEmpty();
        withoutSiphons();
        due.end();
    }

    /** A net without tokens: of each firing the set that it takes from and the set that it gives to. */
    private static MarkingHall bySets(int places, int weight, int... takesGives) {
        MarkingHall hall = Nets.with(takesGives.length / 2, new int[places]);
        for (int f = 0; f < takesGives.length / 2; f++) {
            for (int p = 0; p < places; p++) {
                hall.arc(f, p, Nets.TAKE, (takesGives[2 * f] >> p & 1) * weight);
                hall.arc(f, p, Nets.GIVE, (takesGives[2 * f + 1] >> p & 1) * weight);
            }
        }
        return hall;
    }

    private static void siphonsAre(String net, String want, MarkingHall hall) {
        due.is(net, want, Nets.siphons(hall));
    }

    private static void trapIs(String net, int want, MarkingHall hall, int set) {
        due.answers(net + ", trap(" + set + ")", want, () -> hall.trap(set));
    }

    /** "A set of PLACES, not empty, is a SIPHON" */
    private static void notEmpty() {
        siphonsAre("nothing", "", new MarkingHall());
        siphonsAre("firings alone", "", Nets.with(8));
        MarkingHall hall = bySets(6, 1, 0, 63);
        siphonsAre("all are given to for nothing", "", hall);
        due.noSuch("so there is no siphon 0", () -> hall.siphon(0));
        hall.arc(0, 5, Nets.GIVE, 0);
        siphonsAre("all but one", "32", hall);
        siphonsAre("one place", "1", Nets.with(0, 0));
    }

    /** "if each FIRING that GIVES to one of it also TAKES from one of it" */
    private static void eachFiringThatGives() {
        for (int f = 0; f < 8; f++) {
            for (int p = 0; p < 6; p++) {
                MarkingHall hall = Nets.with(8, 0, 0, 0, 0, 0, 0);
                hall.arc(f, p, Nets.GIVE, 1);
                siphonsAre("firing " + f + " gives to " + p, singlesBut(p), hall);
                hall.arc(f, p, Nets.TAKE, 1);
                siphonsAre("and takes from it", singlesBut(MarkingHall.NONE), hall);
                hall.arc((f + 1) % 8, p, Nets.GIVE, 1);
                siphonsAre("another one gives", singlesBut(p), hall);
            }
        }
        siphonsAre("one that takes alone", "1 2", bySets(2, 1, 3, 0));
    }

    private static String singlesBut(int place) {
        StringBuilder all = new StringBuilder();
        for (int p = 0; p < 6; p++) {
            all.append(p == place ? "" : (1 << p) + " ");
        }
        return all.toString().trim();
    }

    private static void alsoTakesFromOneOfIt() {
        siphonsAre("from another of it", "2 5", bySets(3, 1, 4, 1, 1, 4));
        siphonsAre("from both of two", "1 2", bySets(2, 1, 3, 3));
        siphonsAre("gives to two, takes from one", "1", bySets(2, 1, 1, 3));
        siphonsAre("to five from the last", "32", bySets(6, 1, 32, 1, 32, 2, 32, 4, 32, 8, 32, 16));
        siphonsAre("two firings ask for two", "7", bySets(3, 1, 2, 1, 4, 1, 1, 6));
    }

    /** "(weights above 0; ...)" */
    private static void weightsAbove0() {
        for (int weight = 0; weight <= 3; weight++) {
            String net = "weights of " + weight;
            siphonsAre(net + ", a ring", weight > 0 ? "7" : "1 2 4", bySets(3, weight, 1, 2, 2, 4, 4, 1));
            siphonsAre(net + ", given to", weight > 0 ? "2" : "1 2", bySets(2, weight, 0, 1));
            trapIs(net + ", taken from", weight > 0 ? 2 : 3, bySets(2, weight, 1, 0), 3);
            trapIs(net + ", passed on", weight > 0 ? 0 : 1, bySets(2, weight, 1, 2), 1);
            trapIs(net + ", passed on to one of it", 3, bySets(2, weight, 1, 2), 3);
        }
    }

    /** "TEST and EMPTY are no TAKE" */
    private static void testAndEmptyAreNoTake() {
        for (int kind : new int[] {Nets.TEST, Nets.EMPTY, Nets.HOLD}) {
            for (int f = 0; f < 8; f++) {
                MarkingHall hall = Nets.with(8, 0, 0);
                hall.arc(f, 0, Nets.GIVE, 1);
                hall.arc(f, 1, Nets.GIVE, 1);
                hall.arc(f, 0, kind, 1);
                siphonsAre("kind " + kind + " at the one place", "", hall);
                hall.arc(f, 1, kind, 1);
                siphonsAre("kind " + kind + " at both", "", hall);
                hall.arc(f, 1, Nets.TAKE, 1);
                siphonsAre("TAKE at the other", "2", hall);
                hall.arc(f, 1, Nets.TAKE, 0);
                hall.arc(f, 0, Nets.TAKE, 1);
                siphonsAre("TAKE at the one", "1", hall);
            }
        }
    }

    /** "It is LEAST, if no other SIPHON is a part of it." */
    private static void leastSiphonsOnly() {
        siphonsAre("not 3 beside 1 and 2", "1 2", Nets.with(0, 0, 0));
        siphonsAre("three rings", "3 12 48", bySets(6, 1, 1, 2, 2, 1, 4, 8, 8, 4, 16, 32, 32, 16));
        siphonsAre("not 7 beside 3", "3", bySets(3, 1, 1, 2, 2, 1, 1, 4));
        siphonsAre("not 7 beside 6", "6", bySets(3, 1, 4, 2, 2, 4, 2, 1));
        siphonsAre("all six", "63", Nets.ring(6));
        siphonsAre("two that share a place", "3 5", bySets(3, 1, 6, 1, 1, 2, 1, 4));
    }

    /** "numbered from 0 by their sets as numbers (the PLACE p is the bit p)" */
    private static void numberedByTheirSets() {
        siphonsAre("the greater part is the lower number", "7 8", bySets(4, 1, 1, 2, 2, 4, 4, 1));
        siphonsAre("the lower place is in the higher number", "6 9", bySets(4, 1, 1, 8, 8, 1, 2, 4, 4, 2));
        siphonsAre("each bit", "1 2 4 8 16 32", Nets.with(0, 0, 0, 0, 0, 0, 0));
        siphonsAre("sixteen", "7 13 14 19 21 22 25 26 35 37 42 44 49 50 52 56",
            bySets(6, 1, 52, 22, 35, 60, 58, 43, 22, 46, 46, 48, 45, 3, 25, 22, 15, 60));
    }

    /** "IndexOutOfBoundsException as told" */
    private static void noSuchLeastSiphon() {
        for (int places = 1; places <= 6; places++) {
            int last = places - 1;
            MarkingHall hall = Nets.with(0, new int[places]);
            due.answers("how many", places, hall::siphons);
            due.answers("the first siphon", 1, () -> hall.siphon(0));
            due.answers("the last siphon", 1 << last, () -> hall.siphon(last));
            due.noSuch("one more", () -> hall.siphon(last + 1));
            for (int far : FAR) {
                due.noSuch("siphon(" + far + ")", () -> hall.siphon(far));
            }
        }
        due.noSuch("siphon(0) of nothing", () -> new MarkingHall().siphon(0));
        due.noSuch("siphon(1) of a ring", () -> Nets.ring(6).siphon(1));
    }

    /** "A set, perhaps empty, is a TRAP" */
    private static void perhapsEmpty() {
        trapIs("nothing", 0, new MarkingHall(), 0);
        trapIs("a ring", 0, Nets.ring(6), 0);
        trapIs("a ring but one", 0, Nets.ring(6), 62);
        trapIs("a drained place", 0, bySets(1, 1, 1, 0), 1);
        trapIs("six drained places", 0, bySets(6, 3, 63, 0), 63);
    }

    /** "if each FIRING that TAKES from one of it, or EMPTIES one of it, also GIVES to one of it" */
    private static void takesOrEmpties() {
        for (int f = 0; f < 8; f++) {
            for (int p = 0; p < 6; p++) {
                for (int kind = Nets.TAKE; kind <= Nets.EMPTY; kind++) {
                    MarkingHall hall = Nets.with(8, 0, 0, 0, 0, 0, 0);
                    hall.arc(f, p, kind, 1);
                    boolean loses = kind == Nets.TAKE || kind == Nets.EMPTY;
                    String net = "kind " + kind + " of firing " + f + " and place " + p;
                    trapIs(net, loses ? 63 - (1 << p) : 63, hall, 63);
                    trapIs(net, loses ? 0 : 1 << p, hall, 1 << p);
                    trapIs(net, 63 - (1 << p), hall, 63 - (1 << p));
                    hall.arc(f, (p + 1) % 6, Nets.TEST, 3);
                    trapIs(net + ", that cannot be done", loses ? 0 : 1 << p, hall, 1 << p);
                }
            }
        }
    }

    private static void alsoGivesToOneOfIt() {
        for (int kind : new int[] {Nets.TAKE, Nets.EMPTY}) {
            for (int p = 0; p < 6; p++) {
                int bit = 1 << p;
                int next = 1 << (p + 1) % 6;
                MarkingHall hall = Nets.with(8, 0, 0, 0, 0, 0, 0);
                hall.arc(7, p, kind, 1);
                hall.arc(7, (p + 1) % 6, Nets.GIVE, 1);
                String net = "kind " + kind + " of " + p + ", and gives to the next one";
                trapIs(net, 0, hall, bit);
                trapIs(net, next, hall, next);
                trapIs(net, bit | next, hall, bit | next);
                trapIs(net, 63 - bit - next, hall, 63 - next);
                hall.arc(7, p, Nets.GIVE, 1);
                trapIs(net + ", and to it", bit, hall, bit);
                hall.arc(6, p, kind, 1);
                trapIs("another one drains it", 0, hall, bit);
            }
        }
    }

    /** "The GREATEST TRAP in a set is the one of which all TRAPS in it are parts." */
    private static void greatestTrap() {
        MarkingHall up = bySets(6, 1, 1, 2, 2, 4, 4, 8, 8, 16, 16, 32, 32, 0);
        MarkingHall down = bySets(6, 1, 1, 0, 2, 1, 4, 2, 8, 4, 16, 8, 32, 16);
        MarkingHall mixed = bySets(6, 1, 4, 32, 1, 8, 32, 2, 8, 4, 2, 16, 16, 0);
        for (int set = 0; set < 64; set++) {
            trapIs("drained upwards", 0, up, set);
            trapIs("drained downwards", 0, down, set);
            trapIs("drained to and fro", 0, mixed, set);
        }
        MarkingHall two = bySets(6, 1, 1, 2, 2, 1, 16, 32, 32, 16, 4, 8);
        trapIs("two rings and a pair", 63, two, 63);
        trapIs("two rings and the first of the pair", 51, two, 55);
        trapIs("two rings and the second of the pair", 59, two, 59);
        trapIs("one of each", 8, two, 1 + 8 + 16);
        trapIs("a ring and one of a ring", 3, two, 3 + 16);
    }

    /** "set: bits of PLACES that there are, or none"; "IllegalArgumentException if another bit is told" */
    private static void bitsOfPlacesThatThereAre() {
        for (int places = 0; places <= 6; places++) {
            MarkingHall hall = Nets.with(1, new int[places]);
            int all = (1 << places) - 1;
            for (int set = 0; set <= all; set++) {
                trapIs(places + " places", set, hall, set);
            }
            for (int bit = places; bit < 32; bit++) {
                int other = 1 << bit;
                due.outOfRange("the bit " + bit + " of " + places, () -> hall.trap(other));
                due.outOfRange("with all that there are", () -> hall.trap(other | all));
            }
            for (int far : FAR) {
                due.outOfRange("trap(" + far + ")", () -> hall.trap(far));
            }
        }
    }

    /** "has a TOKEN now in one of its PLACES at least" */
    private static void aTokenNowAtLeast() {
        for (int tokens : new int[] {0, 1, 2, 99}) {
            for (int place = 0; place < 6; place++) {
                int[] all = new int[6];
                all[place] = tokens;
                MarkingHall ring = Nets.with(6, all);
                for (int p = 0; p < 6; p++) {
                    Nets.moves(ring, p, p, 1, (p + 1) % 6, 1);
                }
                due.answers(tokens + " at " + place + " of a ring", tokens > 0, ring::isPromising);
            }
            due.answers(tokens + " in one place", tokens > 0, Nets.with(0, tokens)::isPromising);
        }
        MarkingHall now = Nets.with(2, 1, 1);
        now.arc(0, 0, Nets.EMPTY, 1);
        now.arc(0, 1, Nets.TEST, 1);
        due.answers("the emptied place is no trap", false, now::isPromising);
        now.arc(0, 0, Nets.EMPTY, 0);
        now.arc(0, 0, Nets.TAKE, 1);
        now.fire(0);
        now.arc(0, 0, Nets.TAKE, 0);
        due.answers("a trap that has lost its token", false, now::isPromising);
        now.arc(1, 0, Nets.GIVE, 1);
        now.fire(1);
        now.arc(1, 0, Nets.GIVE, 0);
        due.answers("a trap that has got one", true, now::isPromising);
    }

    /** "if the GREATEST TRAP in each LEAST SIPHON ..." */
    private static void inEachLeastSiphon() {
        for (int places = 1; places <= 6; places++) {
            for (int without = 0; without < places; without++) {
                int[] tokens = new int[places];
                for (int p = 0; p < places; p++) {
                    tokens[p] = p == without ? 0 : 1;
                }
                due.answers("all of " + places + " but " + without, false, Nets.with(0, tokens)::isPromising);
                tokens[without] = 1;
                due.answers("all of " + places, true, Nets.with(0, tokens)::isPromising);
            }
        }
    }

    /** "(none has, if it is empty)"; the token is to be in the trap, not beside it in the siphon. */
    private static void noneHasIfItIsEmpty() {
        MarkingHall leaking = Nets.with(3, 5, 5);
        Nets.moves(leaking, 0, 0, 1, 1, 1);
        Nets.moves(leaking, 1, 1, 1, 0, 1);
        siphonsAre("a ring", "3", leaking);
        due.answers("a ring", true, leaking::isPromising);
        leaking.arc(2, 0, Nets.TAKE, 1);
        siphonsAre("a ring that leaks", "3", leaking);
        trapIs("a ring that leaks", 0, leaking, 3);
        due.answers("a ring that leaks", false, leaking::isPromising);
        leaking.arc(2, 0, Nets.TAKE, 0);
        leaking.arc(2, 0, Nets.EMPTY, 1);
        due.answers("a ring that is emptied", false, leaking::isPromising);
        leaking.arc(2, 0, Nets.EMPTY, 0);
        due.answers("a ring again", true, leaking::isPromising);
        MarkingHall beside = Nets.with(3, 5, 0);
        Nets.moves(beside, 0, 0, 1, 1, 1);
        beside.arc(1, 1, Nets.TAKE, 1);
        beside.arc(1, 1, Nets.GIVE, 1);
        beside.arc(1, 0, Nets.GIVE, 1);
        beside.arc(2, 0, Nets.TAKE, 1);
        siphonsAre("a trap in a siphon", "3", beside);
        trapIs("a trap in a siphon", 2, beside, 3);
        due.answers("the tokens are beside it", false, beside::isPromising);
        beside.fire(0);
        due.answers("one is in it", true, beside::isPromising);
    }

    /** Where there is no LEAST SIPHON, each of them has what is asked. */
    private static void withoutSiphons() {
        due.answers("nothing", true, () -> new MarkingHall().isPromising());
        due.answers("firings alone", true, () -> Nets.with(8).isPromising());
        MarkingHall hall = bySets(2, 1, 0, 3);
        due.answers("all places given to for nothing", true, hall::isPromising);
        hall.arc(0, 1, Nets.GIVE, 0);
        due.answers("one is not, and has no token", false, hall::isPromising);
    }
}
