/**
 * Promises 1 to 7 and the terms of nets: a test for each sentence that names a
 * boundary. The sentence stands above its test.
 */
public final class NetsEdgesTest {
    private static final Due due = new Due();
    private static final int NONE = MarkingHall.NONE;
    private static final String[] KINDS = {"TAKE", "GIVE", "TEST", "HOLD", "EMPTY"};

    public static void main(String[] args) {
        beginsWithoutAny();
        atMostSixPlaces();
        tokensFrom0To99();
        atMostEightFirings();
        weightsFrom0To3();
        kindsFromTakeToEmpty();
        all0AtFirst();
        oneOfEachKind();
        atLeastTakeAndTest();
        belowHold();
        forEachPlace();
        notMoreThan99Behind();
        takenBeforeGiven();
        losesAllIfEmpty();
        atOnceForAllPlaces();
        countsTheDoneOnes();
        netWithoutFirings();
        netWithoutPlaces();
        upTo512Calls();
        due.end();
    }

    /** "Begins without PLACES and FIRINGS." */
    private static void beginsWithoutAny() {
        MarkingHall hall = new MarkingHall();
        due.noSuch("new: tokens(0)", () -> hall.tokens(0));
        due.noSuch("new: can(0)", () -> hall.can(0) ? 1 : 0);
        due.noSuch("new: arc(0, 0, TAKE, 0)", () -> hall.arc(0, 0, Nets.TAKE, 0));
        due.noSuch("new: log(0)", () -> hall.log(0));
        due.is("new: a look", " graph 1 graph 0 graph 1 graph 1 rows  rounds  siphons  trap 0 true true log 0 0",
            Nets.look(hall, 0, 0));
        due.answers("new: blank()", 0, hall::blank);
        due.answers("new: the first place", 0, () -> hall.place(0));
        due.answers("new: the first firing", 0, hall::firing);
        MarkingHall other = new MarkingHall();
        due.noSuch("another new one: tokens(0)", () -> other.tokens(0));
        due.noSuch("another new one: can(0)", () -> other.can(0) ? 1 : 0);
        due.answers("another new one: the first place", 0, () -> other.place(0));
    }

    /** "PLACES are numbered from 0, at most 6"; "IllegalStateException if there are 6". */
    private static void atMostSixPlaces() {
        MarkingHall hall = Nets.with(1);
        for (int p = 0; p < 6; p++) {
            int place = p;
            due.noSuch("before place " + p, () -> hall.tokens(place));
            due.noSuch("no arc before place " + p, () -> hall.arc(0, place, Nets.TAKE, 0));
            due.answers("place " + p, p, () -> hall.place(90 + place));
            due.answers("tokens of place " + p, 90 + p, () -> hall.tokens(place));
            due.answers("an arc of place " + p, 0, () -> hall.arc(0, place, Nets.TAKE, 0));
            due.answers("a marking with place " + p, 90 + p, () -> hall.marking(0, place));
            due.answers("the greatest trap with place " + p, (2 << p) - 1, () -> hall.trap((2 << place) - 1));
        }
        due.notNow("a seventh place", () -> hall.place(0));
        due.noSuch("tokens of a seventh place", () -> hall.tokens(6));
        due.noSuch("an arc of a seventh place", () -> hall.arc(0, 6, Nets.TAKE, 0));
        for (int p = 0; p < 6; p++) {
            int place = p;
            due.answers("still the tokens of " + p, 90 + p, () -> hall.tokens(place));
        }
    }

    /** "each with TOKENS, 0 to 99" */
    private static void tokensFrom0To99() {
        for (int tokens : new int[] {0, 1, 50, 98, 99}) {
            for (int before = 0; before < 6; before++) {
                MarkingHall hall = Nets.with(0, new int[before]);
                int place = before;
                due.answers("place(" + tokens + ")", before, () -> hall.place(tokens));
                due.answers("its tokens", tokens, () -> hall.tokens(place));
            }
        }
        for (int wrong : new int[] {-1, 100, 101, 127, 128, 255, 256, -156, -256, 1 << 16, 1 << 30}) {
            MarkingHall hall = new MarkingHall();
            due.outOfRange("place(" + wrong + ")", () -> hall.place(wrong));
            due.noSuch("no place behind place(" + wrong + ")", () -> hall.tokens(0));
            due.answers("its number is the next one's", 0, () -> hall.place(99));
        }
    }

    /** "FIRINGS are numbered from 0, at most 8"; "IllegalStateException if there are 8". */
    private static void atMostEightFirings() {
        MarkingHall hall = Nets.with(0, 9);
        for (int f = 0; f < 8; f++) {
            int firing = f;
            due.noSuch("before firing " + f, () -> hall.can(firing) ? 1 : 0);
            due.noSuch("no arc before firing " + f, () -> hall.arc(firing, 0, Nets.TAKE, 0));
            due.noSuch("no log before firing " + f, () -> hall.log(firing));
            due.answers("firing " + f, f, hall::firing);
            due.answers("can firing " + f, true, () -> hall.can(firing));
            due.answers("level of firing " + f, 2, () -> hall.level(firing));
            due.answers("an arc of firing " + f, 0, () -> hall.arc(firing, 0, Nets.TAKE, 1));
            due.answers("log firing " + f, f + 1, () -> hall.log(firing));
            due.answers("fire firing " + f, f + 1, () -> hall.fire(firing));
            due.answers("tokens behind firing " + f, 8 - f, () -> hall.tokens(0));
        }
        due.notNow("a ninth firing", hall::firing);
        due.noSuch("can a ninth firing", () -> hall.can(8) ? 1 : 0);
        due.noSuch("log a ninth firing", () -> hall.log(8));
        due.noSuch("an arc of a ninth firing", () -> hall.arc(8, 0, Nets.TAKE, 0));
        due.answers("still the arc of the eighth", 1, () -> hall.arc(7, 0, Nets.TAKE, 1));
    }

    /** "with a weight of 0 to 3, and one of the kind EMPTY, with a weight of 0 or 1"; "Returns what it was." */
    private static void weightsFrom0To3() {
        for (int k = Nets.TAKE; k <= Nets.EMPTY; k++) {
            int kind = k;
            int most = k == Nets.EMPTY ? 1 : 3;
            MarkingHall hall = Nets.with(8, 0, 0, 0, 0, 0, 0);
            int was = 0;
            for (int weight : new int[] {0, most, most, 0, 1, most, 1, 0}) {
                int before = was;
                due.answers(KINDS[k] + " " + weight, before, () -> hall.arc(7, 5, kind, weight));
                was = weight;
            }
            hall.arc(7, 5, kind, 1);
            for (int wrong : new int[] {-1, most + 1, most + 2, 256, 1 << 16, Integer.MIN_VALUE, Integer.MAX_VALUE}) {
                due.outOfRange(KINDS[k] + " of weight " + wrong, () -> hall.arc(7, 5, kind, wrong));
                due.answers(KINDS[k] + " is what it was", 1, () -> hall.arc(7, 5, kind, 1));
            }
        }
    }

    /** "kind: TAKE to EMPTY" */
    private static void kindsFromTakeToEmpty() {
        due.is("the constants", "-1 0 1 2 3 4", MarkingHall.NONE + " " + MarkingHall.TAKE + " " + MarkingHall.GIVE + " "
            + MarkingHall.TEST + " " + MarkingHall.HOLD + " " + MarkingHall.EMPTY);
        MarkingHall hall = Nets.with(2, 5, 5);
        due.answers("the first kind", 0, () -> hall.arc(0, 0, 0, 1));
        due.answers("the last kind", 0, () -> hall.arc(0, 0, 4, 1));
        for (int wrong : new int[] {-1, 5, 6, 256, Integer.MIN_VALUE, Integer.MAX_VALUE}) {
            for (int weight = 0; weight <= 1; weight++) {
                int w = weight;
                due.outOfRange("kind " + wrong + " of weight " + w, () -> hall.arc(0, 0, wrong, w));
                due.outOfRange("in the middle", () -> hall.arc(1, 1, wrong, w));
            }
        }
        for (int f = 0; f < 2; f++) {
            for (int p = 0; p < 2; p++) {
                int firing = f;
                int place = p;
                for (int k = 0; k <= 4; k++) {
                    int kind = k;
                    boolean told = f == 0 && p == 0 && (k == 0 || k == 4);
                    due.answers("all arcs are as they were", told ? 1 : 0, () -> hall.arc(firing, place, kind, 0));
                }
            }
        }
    }

    /** "all are 0 at first, which is as if there was none" */
    private static void all0AtFirst() {
        MarkingHall hall = Nets.with(8, 0, 99, 0, 99, 0, 99);
        for (int f = 0; f < 8; f++) {
            int firing = f;
            due.answers("firing " + f + " without arcs can be done", true, () -> hall.can(firing));
        }
        due.answers("it changes nothing", 1, () -> hall.fire(3));
        for (int p = 0; p < 6; p++) {
            int place = p;
            due.answers("tokens of " + p, p % 2 * 99, () -> hall.tokens(place));
        }
        for (int i = 0; i < 240; i++) {
            int at = i;
            due.answers("arc " + i + " at first", 0, () -> hall.arc(at / 30, at / 5 % 6, at % 5, 1));
        }
        MarkingHall later = Nets.with(1, 7);
        for (int k = Nets.TAKE; k <= Nets.EMPTY; k++) {
            later.arc(0, 0, k, 1);
        }
        later.place(7);
        later.firing();
        for (int k = Nets.TAKE; k <= Nets.EMPTY; k++) {
            int kind = k;
            due.answers(KINDS[k] + " of a place that came later", 0, () -> later.arc(0, 1, kind, 0));
            due.answers(KINDS[k] + " of a firing that came later", 0, () -> later.arc(1, 0, kind, 0));
        }
        due.answers("a weight told and taken back is none", true, () -> takenBack().can(0));
    }

    private static MarkingHall takenBack() {
        MarkingHall hall = Nets.with(1, 0);
        for (int k = Nets.TAKE; k <= Nets.EMPTY; k++) {
            hall.arc(0, 0, k, 1);
            hall.arc(0, 0, k, 0);
        }
        return hall;
    }

    /** "A FIRING and a PLACE have an ARC of each of the kinds": to tell one leaves the others. */
    private static void oneOfEachKind() {
        for (int k = Nets.TAKE; k <= Nets.EMPTY; k++) {
            MarkingHall hall = Nets.with(8, 0, 0, 0, 0, 0, 0);
            hall.arc(4, 3, k, 1);
            for (int i = 0; i < 240; i++) {
                int at = i;
                boolean told = i / 30 == 4 && i / 5 % 6 == 3 && i % 5 == k;
                due.answers("arc " + i + " beside a " + KINDS[k], told ? 1 : 0,
                    () -> hall.arc(at / 30, at / 5 % 6, at % 5, 0));
            }
        }
    }

    /** "its TOKENS are at least the weight of TAKE, and at least that of TEST" */
    private static void atLeastTakeAndTest() {
        for (int take = 0; take <= 3; take++) {
            for (int test = 0; test <= 3; test++) {
                for (int tokens = 0; tokens <= 4; tokens++) {
                    MarkingHall hall = Nets.with(1, tokens);
                    hall.arc(0, 0, Nets.TAKE, take);
                    hall.arc(0, 0, Nets.TEST, test);
                    String title = "TAKE " + take + " and TEST " + test + " of " + tokens;
                    boolean can = tokens >= take && tokens >= test;
                    due.answers(title, can, () -> hall.can(0));
                    due.is(title + ", fire", can ? "1" : Due.NOT_NOW, Due.outcome(() -> hall.fire(0)));
                    due.answers(title + ", left", can ? tokens - take : tokens, () -> hall.tokens(0));
                }
            }
        }
    }

    /** "if the weight of HOLD is above 0, below that" */
    private static void belowHold() {
        for (int hold = 0; hold <= 3; hold++) {
            for (int tokens : new int[] {0, 1, 2, 3, 4, 98, 99}) {
                MarkingHall hall = Nets.with(1, tokens);
                hall.arc(0, 0, Nets.HOLD, hold);
                boolean can = hold == 0 || tokens < hold;
                due.answers("HOLD " + hold + " of " + tokens, can, () -> hall.can(0));
                due.is("fire it", can ? "1" : Due.NOT_NOW, Due.outcome(() -> hall.fire(0)));
                due.answers("HOLD takes nothing", tokens, () -> hall.tokens(0));
            }
        }
        MarkingHall both = Nets.with(1, 2);
        both.arc(0, 0, Nets.HOLD, 3);
        both.arc(0, 0, Nets.TEST, 2);
        due.answers("2 and below 3", true, () -> both.can(0));
        both.arc(0, 0, Nets.TEST, 3);
        due.answers("3 and below 3", false, () -> both.can(0));
        belowHoldBeforeIt();
    }

    /** It is the TOKENS before the FIRING that are below HOLD, whatever is left, given or emptied by it. */
    private static void belowHoldBeforeIt() {
        for (int i = 0; i < 5 * 4 * 4 * 4; i++) {
            int tokens = i % 5;
            int hold = i / 5 % 4;
            int take = i / 20 % 4;
            int give = i / 80;
            MarkingHall hall = Nets.with(1, tokens);
            hall.arc(0, 0, Nets.HOLD, hold);
            hall.arc(0, 0, Nets.TAKE, take);
            hall.arc(0, 0, Nets.GIVE, give);
            String title = "HOLD " + hold + ", TAKE " + take + ", GIVE " + give + " of " + tokens;
            boolean can = tokens >= take && (hold == 0 || tokens < hold);
            due.answers(title, can, () -> hall.can(0));
            hall.arc(0, 0, Nets.EMPTY, 1);
            due.answers(title + ", EMPTY", can, () -> hall.can(0));
            due.is(title + ", fire", can ? "1" : Due.NOT_NOW, Due.outcome(() -> hall.fire(0)));
            due.answers(title + ", behind", can ? give : tokens, () -> hall.tokens(0));
        }
    }

    /** "if for each PLACE": each place of six bars each firing of eight. */
    private static void forEachPlace() {
        for (int p = 0; p < 6; p++) {
            int place = p;
            int[] tokens = {1, 1, 1, 1, 1, 1};
            int firing = p + 2;
            MarkingHall hall = Nets.with(8, tokens);
            for (int k : new int[] {Nets.TAKE, Nets.TEST, Nets.HOLD}) {
                hall.arc(firing, place, k, k == Nets.HOLD ? 1 : 2);
                due.answers(KINDS[k] + " at place " + p, false, () -> hall.can(firing));
                due.answers("the firing before it", true, () -> hall.can(firing - 1));
                hall.arc(firing, place, k, k == Nets.HOLD ? 2 : 1);
                due.answers(KINDS[k] + " at place " + p + " no longer", true, () -> hall.can(firing));
                hall.arc(firing, place, k, 0);
            }
            tokens[p] = 99;
            MarkingHall full = Nets.with(8, tokens);
            full.arc(firing, place, Nets.GIVE, 1);
            due.answers("a hundredth at place " + p, false, () -> full.can(firing));
            full.arc(firing, place, Nets.TAKE, 1);
            due.answers("not a hundredth at place " + p, true, () -> full.can(firing));
        }
    }

    /** "if no PLACE would have more than 99 TOKENS behind it" */
    private static void notMoreThan99Behind() {
        for (int tokens = 95; tokens <= 99; tokens++) {
            for (int i = 0; i < 32; i++) {
                int give = i % 4;
                int take = i / 4 % 4;
                int empty = i / 16;
                MarkingHall hall = Nets.with(1, 50, tokens);
                hall.arc(0, 1, Nets.GIVE, give);
                hall.arc(0, 1, Nets.TAKE, take);
                hall.arc(0, 1, Nets.EMPTY, empty);
                int behind = empty == 1 ? give : tokens - take + give;
                String title = tokens + ", TAKE " + take + ", EMPTY " + empty + ", GIVE " + give;
                due.answers(title, behind <= 99, () -> hall.can(0));
                due.is(title + ", fire", behind <= 99 ? "1" : Due.NOT_NOW, Due.outcome(() -> hall.fire(0)));
                due.answers(title + ", behind", behind <= 99 ? behind : tokens, () -> hall.tokens(1));
                due.answers("the other place", 50, () -> hall.tokens(0));
            }
        }
    }

    /** "loses as many TOKENS as the weight of TAKE ... and then gets as many as that of GIVE" */
    private static void takenBeforeGiven() {
        MarkingHall hall = Nets.with(1, 2);
        Nets.moves(hall, 0, 0, 3, 0, 3);
        due.answers("what it gives is no help to take", false, () -> hall.can(0));
        hall.arc(0, 0, Nets.TAKE, 2);
        due.answers("takes 2, gives 3", 1, () -> hall.fire(0));
        due.answers("has", 3, () -> hall.tokens(0));
        hall.arc(0, 0, Nets.TAKE, 3);
        due.answers("takes 3, gives 3", 2, () -> hall.fire(0));
        due.answers("has as many", 3, () -> hall.tokens(0));
        hall.arc(0, 0, Nets.GIVE, 0);
        due.answers("takes the last ones", 3, () -> hall.fire(0));
        due.answers("has none", 0, () -> hall.tokens(0));
    }

    /** "or all, if there are some, if EMPTY is 1" */
    private static void losesAllIfEmpty() {
        for (int tokens : new int[] {0, 1, 2, 3, 98, 99}) {
            for (int give = 0; give <= 3; give++) {
                MarkingHall hall = Nets.with(1, tokens, tokens);
                hall.arc(0, 0, Nets.EMPTY, 1);
                hall.arc(0, 0, Nets.GIVE, give);
                String title = "EMPTY of " + tokens + ", GIVE " + give;
                due.answers(title, 1, () -> hall.fire(0));
                due.answers(title + ", behind", give, () -> hall.tokens(0));
                due.answers(title + ", beside", tokens, () -> hall.tokens(1));
            }
        }
        MarkingHall taking = Nets.with(1, 2);
        taking.arc(0, 0, Nets.EMPTY, 1);
        taking.arc(0, 0, Nets.TAKE, 3);
        due.answers("EMPTY does not help TAKE", false, () -> taking.can(0));
        taking.arc(0, 0, Nets.TAKE, 1);
        due.answers("EMPTY and TAKE", 1, () -> taking.fire(0));
        due.answers("all, not one", 0, () -> taking.tokens(0));
        MarkingHall held = Nets.with(1, 3);
        held.arc(0, 0, Nets.EMPTY, 1);
        held.arc(0, 0, Nets.HOLD, 3);
        due.answers("EMPTY does not help HOLD", false, () -> held.can(0));
    }

    /** "As it is done, at once for all PLACES" */
    private static void atOnceForAllPlaces() {
        MarkingHall swap = Nets.with(1, 1, 0, 99);
        Nets.moves(swap, 0, 0, 1, 1, 1);
        swap.arc(0, 1, Nets.HOLD, 1);
        swap.arc(0, 2, Nets.TAKE, 1);
        swap.arc(0, 2, Nets.GIVE, 1);
        due.answers("all at once", 1, () -> swap.fire(0));
        due.is("behind it", "0 1 99", swap.tokens(0) + " " + swap.tokens(1) + " " + swap.tokens(2));
        MarkingHall barred = Nets.with(1, 5, 99, 5);
        Nets.moves(barred, 0, 0, 1, 1, 1);
        barred.arc(0, 2, Nets.EMPTY, 1);
        due.notNow("the second place bars it", () -> barred.fire(0));
        due.is("none has lost", "5 99 5", barred.tokens(0) + " " + barred.tokens(1) + " " + barred.tokens(2));
        MarkingHall all = Nets.with(8, 3, 3, 3, 3, 3, 3);
        for (int p = 0; p < 6; p++) {
            all.arc(7, p, Nets.TAKE, 3);
            all.arc(7, p, Nets.GIVE, p % 4);
        }
        all.fire(7);
        for (int p = 0; p < 6; p++) {
            int place = p;
            due.answers("place " + p + " of six", p % 4, () -> all.tokens(place));
        }
    }

    /** "Returns how many were done so by now, of all FIRINGS"; "IllegalStateException if it cannot be done" */
    private static void countsTheDoneOnes() {
        MarkingHall hall = Nets.with(2, 3);
        hall.arc(0, 0, Nets.TAKE, 1);
        hall.arc(1, 0, Nets.HOLD, 1);
        due.notNow("held back", () -> hall.fire(1));
        due.answers("1", 1, () -> hall.fire(0));
        due.answers("2", 2, () -> hall.fire(0));
        due.notNow("still held back", () -> hall.fire(1));
        due.answers("3", 3, () -> hall.fire(0));
        due.notNow("none left", () -> hall.fire(0));
        due.noSuch("none there", () -> hall.fire(2));
        due.answers("4, of the other one", 4, () -> hall.fire(1));
        hall.log(1);
        hall.goes();
        hall.cost();
        hall.graph(0);
        hall.place(1);
        hall.firing();
        due.answers("5, what is but looked at is not done", 5, () -> hall.fire(2));
        MarkingHall other = Nets.with(1);
        due.answers("another hall's first one", 1, () -> other.fire(0));
    }

    /** "(A net without FIRINGS is one as well.)" */
    private static void netWithoutFirings() {
        MarkingHall hall = Nets.with(0, 0, 99, 7);
        due.is("a look", " graph 1 graph 0 graph 1 graph 1 place 0 0 0 0 -1 -1 -1 place 99 99 99 99 -1 0 -1"
            + " place 7 7 7 7 -1 0 -1 rows 001 010 100 rounds  siphons 1 2 4 trap 0 trap 1 trap 3 trap 7 false true"
            + " log 0 0", Nets.look(hall, 3, 0));
        due.answers("way to what it has", 0, () -> hall.way(2, 7));
        due.answers("way to one more", NONE, () -> hall.way(2, 8));
        due.answers("a second marking", NONE, () -> hall.marking(1, 0));
        due.noSuch("can(0)", () -> hall.can(0) ? 1 : 0);
        due.noSuch("fire(0)", () -> hall.fire(0));
        due.noSuch("level(0)", () -> hall.level(0));
        due.noSuch("log(0)", () -> hall.log(0));
        due.noSuch("round(0, 0)", () -> hall.round(0, 0));
        due.answers("with a token in each it is promising", true, () -> Nets.with(0, 1, 1).isPromising());
    }

    private static void netWithoutPlaces() {
        MarkingHall hall = Nets.with(2);
        hall.log(1);
        due.is("a look", " graph 1 graph 2 graph 0 graph 1 firing true 2 firing true 2 rows  rounds 01 10"
            + " siphons  trap 0 true true log 1 0", Nets.look(hall, 0, 2));
        due.answers("fire(1)", 1, () -> hall.fire(1));
    }

    /** "An object is used for at most 512 calls": the last one is answered as well. */
    private static void upTo512Calls() {
        MarkingHall firing = Nets.with(1, 99);
        for (int i = 1; i <= 509; i++) {
            firing.fire(0);
        }
        due.answers("call 512", 510, () -> firing.fire(0));
        MarkingHall changing = Nets.ring(6);
        // The ring took 24 calls.
        for (int i = 24; i < 512; i += 2) {
            int test = i / 2 % 2 * 2;
            changing.arc(0, 0, Nets.TEST, test);
            due.answers("markings at call " + (i + 2), test == 0 ? 6 : 1, () -> changing.graph(0));
        }
        MarkingHall logging = Nets.with(1);
        for (int i = 1; i < 511; i++) {
            int length = i % 11;
            due.answers("log at call " + (i + 1), length == 0 ? 10 : length,
                () -> length == 0 ? logging.blank() : logging.log(0));
        }
        due.answers("call 512 of the log", 510 % 11, logging::goes);
    }
}
