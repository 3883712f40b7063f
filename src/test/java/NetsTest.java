/** Promises 1 to 7: a new object, place, firing, arc, tokens, can, fire. */
public final class NetsTest {
    private static final Due due = new Due();

    public static void main(String[] args) {
        newObject();
        places();
        firings();
        arcs();
        tokens();
        takesAndTests();
        holds();
        notMoreThan99();
        emptiesAndGives();
        fires();
        due.end();
    }

    private static void newObject() {
        MarkingHall hall = new MarkingHall();
        due.noSuch("new: tokens(0)", () -> hall.tokens(0));
        due.noSuch("new: can(0)", () -> hall.can(0) ? 1 : 0);
        due.noSuch("new: fire(0)", () -> hall.fire(0));
        due.noSuch("new: log(0)", () -> hall.log(0));
        due.answers("new: graph(0)", 1, () -> hall.graph(0));
        due.answers("new: place(0)", 0, () -> hall.place(0));
        due.answers("new: firing()", 0, hall::firing);
    }

    private static void places() {
        MarkingHall hall = new MarkingHall();
        due.outOfRange("place(-1)", () -> hall.place(-1));
        due.outOfRange("place(100)", () -> hall.place(100));
        due.outOfRange("place(least int)", () -> hall.place(Integer.MIN_VALUE));
        due.outOfRange("place(greatest int)", () -> hall.place(Integer.MAX_VALUE));
        int[] tokens = {0, 99, 5, 7, 1, 42};
        for (int p = 0; p < 6; p++) {
            int number = p;
            due.answers("place " + p, p, () -> hall.place(tokens[number]));
        }
        for (int p = 0; p < 6; p++) {
            int number = p;
            due.answers("tokens of " + p, tokens[p], () -> hall.tokens(number));
        }
        due.notNow("a seventh place", () -> hall.place(0));
        due.outOfRange("a seventh place of 100 tokens", () -> hall.place(100));
        due.noSuch("tokens of a seventh place", () -> hall.tokens(6));
    }

    private static void firings() {
        MarkingHall hall = Nets.with(0, 1);
        for (int f = 0; f < 8; f++) {
            due.answers("firing " + f, f, hall::firing);
        }
        due.notNow("a ninth firing", hall::firing);
        due.answers("can the eighth", true, () -> hall.can(7));
        due.noSuch("can a ninth", () -> hall.can(8) ? 1 : 0);
    }

    private static void arcs() {
        MarkingHall hall = Nets.with(2, 1, 1, 1);
        for (int kind = Nets.TAKE; kind <= Nets.EMPTY; kind++) {
            int k = kind;
            int most = kind == Nets.EMPTY ? 1 : 3;
            String call = "arc of kind " + kind;
            due.answers(call + " at first", 0, () -> hall.arc(1, 2, k, most));
            due.answers(call + " again", most, () -> hall.arc(1, 2, k, 1));
            due.answers(call + " to 0", 1, () -> hall.arc(1, 2, k, 0));
            due.answers(call + " from 0", 0, () -> hall.arc(1, 2, k, 0));
            due.outOfRange(call + " of weight -1", () -> hall.arc(1, 2, k, -1));
            due.outOfRange(call + " above its weights", () -> hall.arc(1, 2, k, most + 1));
            due.noSuch(call + ", firing -1", () -> hall.arc(-1, 2, k, 9));
            due.noSuch(call + ", firing 2", () -> hall.arc(2, 2, k, 1));
            due.noSuch(call + ", place -1", () -> hall.arc(1, -1, k, 1));
            due.noSuch(call + ", place 3", () -> hall.arc(1, 3, k, -1));
        }
        due.outOfRange("kind -1", () -> hall.arc(0, 0, -1, 1));
        due.outOfRange("kind 5", () -> hall.arc(0, 0, 5, 0));
        due.noSuch("kind 5 of firing 8", () -> hall.arc(8, 0, 5, 0));
        due.noSuch("kind 5 of place 8", () -> hall.arc(0, 8, 5, 0));
        everyArcIsItsOwn();
    }

    private static void everyArcIsItsOwn() {
        MarkingHall hall = Nets.with(8, 1, 1, 1, 1, 1, 1);
        for (int i = 0; i < 240; i++) {
            hall.arc(i / 30, i / 5 % 6, i % 5, weightOf(i));
        }
        for (int i = 0; i < 240; i++) {
            int at = i;
            due.answers("arc " + i, weightOf(i), () -> hall.arc(at / 30, at / 5 % 6, at % 5, 0));
        }
    }

    private static int weightOf(int i) {
        return i % 5 == Nets.EMPTY ? i / 7 % 2 : (i / 3 + i / 11) % 4;
    }

    private static void tokens() {
        MarkingHall hall = Nets.with(1, 3, 99);
        Nets.moves(hall, 0, 0, 2, 0, 1);
        due.answers("tokens(1)", 99, () -> hall.tokens(1));
        hall.fire(0);
        due.answers("tokens(0) behind a firing", 2, () -> hall.tokens(0));
        due.noSuch("tokens(-1)", () -> hall.tokens(-1));
        due.noSuch("tokens(2)", () -> hall.tokens(2));
        due.noSuch("tokens(least int)", () -> hall.tokens(Integer.MIN_VALUE));
        due.noSuch("tokens(greatest int)", () -> hall.tokens(Integer.MAX_VALUE));
    }

    private static void takesAndTests() {
        for (int weight = 0; weight <= 3; weight++) {
            for (int has = 0; has <= 4; has++) {
                MarkingHall taking = Nets.with(1, 9, has);
                taking.arc(0, 1, Nets.TAKE, weight);
                due.answers("TAKE " + weight + " of " + has, has >= weight, () -> taking.can(0));
                MarkingHall testing = Nets.with(1, 9, has);
                testing.arc(0, 1, Nets.TEST, weight);
                due.answers("TEST " + weight + " of " + has, has >= weight, () -> testing.can(0));
                if (has >= weight) {
                    taking.fire(0);
                    testing.fire(0);
                }
                int left = has >= weight ? has - weight : has;
                int tokens = has;
                due.answers("left by TAKE", left, () -> taking.tokens(1));
                due.answers("left by TEST", tokens, () -> testing.tokens(1));
            }
        }
        MarkingHall both = Nets.with(1, 2);
        both.arc(0, 0, Nets.TAKE, 1);
        both.arc(0, 0, Nets.TEST, 3);
        due.answers("TAKE 1 and TEST 3 of 2", false, () -> both.can(0));
        both.arc(0, 0, Nets.TEST, 2);
        due.answers("TAKE 1 and TEST 2 of 2", true, () -> both.can(0));
        due.noSuch("can(-1)", () -> both.can(-1) ? 1 : 0);
        due.noSuch("can(1)", () -> both.can(1) ? 1 : 0);
    }

    private static void holds() {
        for (int weight = 0; weight <= 3; weight++) {
            for (int has : new int[] {0, 1, 2, 3, 4, 99}) {
                MarkingHall hall = Nets.with(1, has, 0);
                hall.arc(0, 0, Nets.HOLD, weight);
                due.answers("HOLD " + weight + " of " + has, weight == 0 || has < weight, () -> hall.can(0));
            }
        }
        MarkingHall hall = Nets.with(1, 0);
        hall.arc(0, 0, Nets.HOLD, 1);
        hall.arc(0, 0, Nets.GIVE, 3);
        due.answers("HOLD looks before the firing", 1, () -> hall.fire(0));
        due.answers("and holds behind it", false, () -> hall.can(0));
    }

    private static void notMoreThan99() {
        for (int give = 0; give <= 3; give++) {
            for (int take = 0; take <= 3; take++) {
                MarkingHall hall = Nets.with(1, 98, 0);
                hall.arc(0, 0, Nets.GIVE, give);
                hall.arc(0, 0, Nets.TAKE, take);
                boolean fits = 98 - take + give <= 99;
                due.answers("98, TAKE " + take + ", GIVE " + give, fits, () -> hall.can(0));
            }
        }
        MarkingHall last = Nets.with(1, 0, 0, 0, 0, 0, 99);
        last.arc(0, 5, Nets.GIVE, 1);
        due.answers("a hundredth token in the last place", false, () -> last.can(0));
        due.notNow("fire it", () -> last.fire(0));
        last.arc(0, 5, Nets.EMPTY, 1);
        due.answers("emptied first", true, () -> last.can(0));
    }

    private static void emptiesAndGives() {
        MarkingHall hall = Nets.with(1, 9, 0, 4);
        for (int p = 0; p < 3; p++) {
            hall.arc(0, p, Nets.EMPTY, 1);
        }
        hall.arc(0, 2, Nets.TAKE, 2);
        hall.arc(0, 0, Nets.GIVE, 3);
        due.answers("EMPTY of none is no bar", 1, () -> hall.fire(0));
        due.answers("emptied, then given 3", 3, () -> hall.tokens(0));
        due.answers("emptied of none", 0, () -> hall.tokens(1));
        due.answers("all, not 2, taken", 0, () -> hall.tokens(2));
        due.answers("TAKE still bars", false, () -> hall.can(0));
        hall.arc(0, 2, Nets.TAKE, 0);
        hall.arc(0, 0, Nets.EMPTY, 0);
        hall.fire(0);
        due.answers("no longer emptied", 6, () -> hall.tokens(0));
    }

    private static void fires() {
        MarkingHall hall = Nets.with(3, 5, 0);
        Nets.moves(hall, 0, 0, 2, 1, 3);
        Nets.moves(hall, 1, 1, 1, 0, 1);
        due.answers("first", 1, () -> hall.fire(0));
        due.answers("second", 2, () -> hall.fire(1));
        due.answers("third, without arcs", 3, () -> hall.fire(2));
        due.answers("fourth", 4, () -> hall.fire(0));
        due.answers("tokens(0)", 2, () -> hall.tokens(0));
        due.answers("tokens(1)", 5, () -> hall.tokens(1));
        hall.arc(0, 0, Nets.TAKE, 3);
        due.notNow("one that cannot", () -> hall.fire(0));
        due.noSuch("fire(3)", () -> hall.fire(3));
        due.noSuch("fire(-1)", () -> hall.fire(-1));
        due.answers("the failed ones do not count", 5, () -> hall.fire(1));
        MarkingHall bare = Nets.with(1);
        due.answers("without places", 1, () -> bare.fire(0));
        due.answers("and again", 2, () -> bare.fire(0));
    }
}
