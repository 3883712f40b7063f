/** Promises 24 to 27: log, blank, goes, cost. */
public final class LogsTest {
    private static final Due due = new Due();
    private static final int NONE = MarkingHall.NONE;

    public static void main(String[] args) {
        log();
        goes();
        costOfLeavingOut();
        costOfDoingBesides();
        costOfBoth();
        costOfLongWays();
        costFollowsTheNet();
        tooGreat();
        due.end();
    }

    private static void write(MarkingHall hall, int... firings) {
        hall.blank();
        for (int f : firings) {
            hall.log(f);
        }
    }

    private static void goesAndCosts(String net, MarkingHall hall, int goes, int cost) {
        due.answers(net + ": goes()", goes, hall::goes);
        due.answers(net + ": cost()", cost, hall::cost);
    }

    private static void log() {
        MarkingHall hall = Nets.with(2, 1);
        due.answers("blank() at first", 0, hall::blank);
        for (int i = 1; i <= 10; i++) {
            int length = i;
            due.answers("log " + i, i, () -> hall.log(length % 2));
        }
        due.notNow("an eleventh", () -> hall.log(0));
        due.noSuch("an eleventh that is none", () -> hall.log(2));
        due.noSuch("log(-1)", () -> hall.log(-1));
        due.noSuch("log(greatest int)", () -> hall.log(Integer.MAX_VALUE));
        due.answers("goes()", 10, hall::goes);
        due.answers("blank()", 10, hall::blank);
        due.answers("blank() again", 0, hall::blank);
        due.answers("goes() of none", 0, hall::goes);
        due.answers("cost() of none", 0, hall::cost);
        due.answers("log(1) from the beginning", 1, () -> hall.log(1));
        due.noSuch("log(2)", () -> hall.log(2));
        due.answers("blank() of one", 1, hall::blank);
        due.noSuch("log(0) without firings", () -> new MarkingHall().log(0));
    }

    private static void goes() {
        MarkingHall hall = Nets.ring(3);
        write(hall, 0, 1, 2, 0, 1, 2, 0, 1, 2, 0);
        goesAndCosts("three rounds and one", hall, 10, 0);
        write(hall, 0, 2, 1);
        goesAndCosts("two in the wrong order", hall, 1, 1);
        write(hall, 1);
        goesAndCosts("not even the first", hall, 0, 1);
        due.answers("tokens are not touched", 1, () -> hall.tokens(0));
        hall.fire(0);
        goesAndCosts("from the marking of now", hall, 1, 0);
        MarkingHall full = Nets.growing(98);
        write(full, 0, 0);
        goesAndCosts("not above 99", full, 1, 1);
    }

    private static void costOfLeavingOut() {
        MarkingHall hall = Nets.with(2, 2, 0);
        hall.arc(0, 0, Nets.TAKE, 1);
        hall.arc(1, 1, Nets.TAKE, 1);
        write(hall, 0, 0, 0);
        goesAndCosts("a third one", hall, 2, 1);
        write(hall, 1, 1, 1, 1, 1, 1, 1, 1, 1, 1);
        goesAndCosts("ten that never can", hall, 0, 10);
        write(hall, 1, 0, 1, 0, 1);
        goesAndCosts("three that never can", hall, 0, 3);
        write(hall, 0, 0, 0, 0, 0, 0, 0, 0, 0, 0);
        goesAndCosts("ten of which two can", hall, 2, 8);
    }

    private static void costOfDoingBesides() {
        MarkingHall hall = Nets.with(3, 0, 0);
        hall.arc(0, 0, Nets.GIVE, 1);
        hall.arc(0, 0, Nets.HOLD, 2);
        Nets.moves(hall, 1, 0, 2, 1, 1);
        hall.arc(2, 1, Nets.TEST, 1);
        hall.arc(2, 0, Nets.HOLD, 1);
        write(hall, 2, 2, 2, 2, 2, 2, 2, 2, 2, 2);
        goesAndCosts("three besides make ten possible", hall, 0, 3);
        write(hall, 2, 2);
        goesAndCosts("two are cheaper to leave out", hall, 0, 2);
        write(hall, 0, 1, 2, 2, 2);
        goesAndCosts("one that is its next one, besides", hall, 1, 1);
        write(hall, 2, 2, 0, 0, 1, 2, 2);
        goesAndCosts("leave out two", hall, 0, 2);
        write(hall, 2, 2, 2, 0, 2, 0, 1, 2);
        goesAndCosts("besides or out, in the middle too", hall, 0, 4);
    }

    private static void costOfBoth() {
        MarkingHall hall = Nets.ring(5);
        write(hall, 0, 1, 3, 4);
        goesAndCosts("one is missing", hall, 2, 1);
        write(hall, 0, 1, 1, 2, 3, 4);
        goesAndCosts("one is too many", hall, 2, 1);
        write(hall, 0, 1, 1, 2, 4, 0);
        goesAndCosts("one too many, one missing", hall, 2, 2);
        write(hall, 4, 3, 2, 1, 0);
        goesAndCosts("backwards", hall, 0, 4);
        write(hall, 0, 4, 0, 4, 0);
        goesAndCosts("not worth going round", hall, 1, 4);
    }

    private static void costOfLongWays() {
        MarkingHall hall = Nets.growing(0);
        hall.firing();
        hall.arc(1, 0, Nets.TEST, 3);
        write(hall, 1, 1, 1, 1, 1, 1, 1, 1, 1, 1);
        goesAndCosts("three up, then ten", hall, 0, 3);
        hall.arc(1, 0, Nets.TAKE, 1);
        goesAndCosts("two more can only be left out, or be given for", hall, 0, 10);
        MarkingHall down = Nets.growing(90, 99);
        write(down, 1, 0, 0, 1, 0, 0, 0, 0, 0, 0);
        goesAndCosts("up to 98", down, 0, 2);
    }

    private static void costFollowsTheNet() {
        MarkingHall hall = Nets.ring(3);
        write(hall, 2, 0);
        goesAndCosts("ring", hall, 0, 1);
        hall.arc(2, 2, Nets.TAKE, 0);
        goesAndCosts("ring without a TAKE", hall, 2, NONE);
        hall.arc(2, 0, Nets.GIVE, 0);
        goesAndCosts("without a GIVE", hall, 2, 0);
        hall.arc(0, 0, Nets.HOLD, 1);
        goesAndCosts("held back", hall, 1, 1);
        hall.firing();
        hall.arc(3, 0, Nets.EMPTY, 1);
        goesAndCosts("emptied, but taken from", hall, 1, 1);
        hall.arc(0, 0, Nets.TAKE, 0);
        goesAndCosts("no longer taken from, so too great", hall, 1, NONE);
        hall.fire(3);
        goesAndCosts("emptied by now", hall, 2, NONE);
    }

    private static void tooGreat() {
        MarkingHall hall = Nets.growing(57, 93);
        due.answers("cost() of none in a too great one", NONE, hall::cost);
        write(hall, 0, 1, 0);
        goesAndCosts("a too great one", hall, 3, NONE);
        hall.fire(0);
        goesAndCosts("less by one", hall, 3, 0);
    }
}
