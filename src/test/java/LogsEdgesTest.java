/**
 * Promises 24 to 27 and the terms of logs: a test for each sentence that names
 * a boundary. The sentence stands above its test.
 */
public final class LogsEdgesTest {
    private static final Due due = new Due();
    private static final int NONE = MarkingHall.NONE;

    public static void main(String[] args) {
        atMostTen();
        emptyAtFirst();
        anyFiring();
        blankTellsHowMany();
        goesFrom0ToAll();
        goesFromTheMarkingOfNow();
        doneForNothing();
        leftOutFor1();
        doneBesidesFor1();
        itsNextOneBesides();
        besidesOrOut();
        wherever();
        throughTheGraph();
        noneIfTooGreat();
        logsOutliveChanges();
        due.end();
    }

    private static void write(MarkingHall hall, int... firings) {
        hall.blank();
        for (int f : firings) {
            hall.log(f);
        }
    }

    private static void writeTimes(MarkingHall hall, int times, int firing) {
        hall.blank();
        for (int i = 0; i < times; i++) {
            hall.log(firing);
        }
    }

    private static void goesAndCosts(String net, MarkingHall hall, int goes, int cost) {
        due.answers(net + ": goes()", goes, hall::goes);
        due.answers(net + ": cost()", cost, hall::cost);
    }

    /** "THE LOG is a row of FIRINGS, at most 10"; "IllegalStateException if it has 10" */
    private static void atMostTen() {
        MarkingHall hall = Nets.with(8, 5);
        hall.arc(7, 0, Nets.TAKE, 1);
        for (int i = 1; i <= 10; i++) {
            int length = i;
            due.answers("log " + i, i, () -> hall.log(length % 2 * 7));
            goesAndCosts(i + " in the log", hall, i, 0);
        }
        for (int f = 0; f < 8; f++) {
            int firing = f;
            due.notNow("an eleventh, " + f, () -> hall.log(firing));
        }
        due.noSuch("an eleventh that is none", () -> hall.log(8));
        due.noSuch("an eleventh that is -1", () -> hall.log(-1));
        goesAndCosts("still ten", hall, 10, 0);
        due.answers("blank() of ten", 10, hall::blank);
        due.answers("the first again", 1, () -> hall.log(7));
    }

    /** "empty at first" */
    private static void emptyAtFirst() {
        due.answers("blank() of a new one", 0, () -> new MarkingHall().blank());
        goesAndCosts("a new one", new MarkingHall(), 0, 0);
        MarkingHall hall = Nets.ring(3);
        goesAndCosts("a ring", hall, 0, 0);
        hall.fire(0);
        goesAndCosts("what is done is not logged", hall, 0, 0);
        due.answers("blank()", 0, hall::blank);
        due.answers("the first one", 1, () -> hall.log(0));
    }

    /** "IndexOutOfBoundsException as told" */
    private static void anyFiring() {
        for (int count = 0; count <= 8; count++) {
            MarkingHall hall = Nets.with(count);
            int last = count - 1;
            if (count > 0) {
                due.answers("the last of " + count, 1, () -> hall.log(last));
                due.answers("the first of " + count, 2, () -> hall.log(0));
            }
            for (int wrong : new int[] {count, count + 1, 256, 1 << 30, Integer.MAX_VALUE, -1, Integer.MIN_VALUE}) {
                due.noSuch("log(" + wrong + ") of " + count, () -> hall.log(wrong));
            }
            due.answers("how many then", count > 0 ? 2 : 0, hall::blank);
        }
    }

    /** "Makes THE LOG empty; returns how many it had." */
    private static void blankTellsHowMany() {
        MarkingHall hall = Nets.with(2, 0);
        hall.arc(0, 0, Nets.TAKE, 1);
        for (int times = 0; times <= 10; times++) {
            for (int i = 0; i < times; i++) {
                hall.log(0);
            }
            goesAndCosts(times + " that cannot be done", hall, 0, times);
            due.answers("blank() of " + times, times, hall::blank);
            due.answers("blank() again", 0, hall::blank);
            goesAndCosts("none", hall, 0, 0);
        }
        hall.log(1);
        goesAndCosts("of the old ones nothing is left", hall, 1, 0);
    }

    /** "It goes so far as its first ones can be done, one behind the other" */
    private static void goesFrom0ToAll() {
        for (int tokens = 0; tokens <= 11; tokens++) {
            MarkingHall hall = Nets.with(1, tokens);
            hall.arc(0, 0, Nets.TAKE, 1);
            for (int length = 0; length <= 10; length++) {
                writeTimes(hall, length, 0);
                int can = Math.min(tokens, length);
                goesAndCosts(length + " of " + tokens, hall, can, length - can);
            }
        }
        MarkingHall later = Nets.with(2, 1);
        later.arc(0, 0, Nets.TAKE, 1);
        write(later, 0, 0, 1);
        goesAndCosts("no further, though the last one can be done", later, 1, 1);
        write(later, 1, 1, 0, 1, 0, 1);
        goesAndCosts("up to the fifth", later, 4, 1);
        MarkingHall full = Nets.growing(95);
        writeTimes(full, 10, 0);
        goesAndCosts("up to 99 tokens", full, 4, 6);
    }

    /** "from the MARKING of now" */
    private static void goesFromTheMarkingOfNow() {
        MarkingHall hall = Nets.ring(4);
        write(hall, 2, 3, 0, 1);
        int[] goes = {0, 0, 4, 0};
        int[] costs = {2, 1, 0, 1};
        for (int turn = 0; turn < 4; turn++) {
            goesAndCosts("turn " + turn, hall, goes[turn], costs[turn]);
            int place = turn;
            due.answers("its token is still there", 1, () -> hall.tokens(place));
            hall.fire(turn);
        }
        due.answers("goes and cost do no firing", 5, () -> hall.fire(0));
    }

    /** "its next FIRING is done, which costs nothing" */
    private static void doneForNothing() {
        MarkingHall hall = Nets.ring(5);
        write(hall, 0, 1, 2, 3, 4, 0, 1, 2, 3, 4);
        goesAndCosts("two rounds", hall, 10, 0);
        write(hall, 0);
        goesAndCosts("one step", hall, 1, 0);
    }

    /** "or its next one is left out, for 1" */
    private static void leftOutFor1() {
        MarkingHall hall = Nets.with(2, 0);
        hall.arc(1, 0, Nets.TAKE, 1);
        for (int length = 0; length <= 10; length++) {
            writeTimes(hall, length, 1);
            goesAndCosts(length + " that never can be done", hall, 0, length);
        }
        for (int at = 0; at < 10; at++) {
            hall.blank();
            for (int i = 0; i < 10; i++) {
                hall.log(i == at ? 1 : 0);
            }
            goesAndCosts("one that never can, at " + at, hall, at, 1);
        }
    }

    /** The firings 0 to count - 1 go one place on; the one behind them can be done where they end. */
    private static MarkingHall path(int count) {
        int[] tokens = new int[count + 1];
        tokens[0] = 1;
        MarkingHall hall = Nets.with(count + 1, tokens);
        for (int f = 0; f < count; f++) {
            Nets.moves(hall, f, f, 1, f + 1, 1);
        }
        hall.arc(count, count, Nets.TEST, 1);
        return hall;
    }

    /** "or a FIRING that is not its next one, or is, is done besides, for 1" */
    private static void doneBesidesFor1() {
        for (int besides = 0; besides <= 5; besides++) {
            MarkingHall hall = path(besides);
            for (int length = 0; length <= 10; length++) {
                writeTimes(hall, length, besides);
                int goes = besides == 0 ? length : 0;
                goesAndCosts(length + " behind " + besides, hall, goes, Math.min(besides, length));
            }
        }
        MarkingHall nine = ramp(3);
        writeTimes(nine, 10, 1);
        goesAndCosts("ten behind 9 besides", nine, 0, 9);
        writeTimes(nine, 9, 1);
        goesAndCosts("nine behind 9 besides", nine, 0, 9);
        MarkingHall twelve = ramp(4);
        writeTimes(twelve, 10, 1);
        goesAndCosts("ten behind 12 besides", twelve, 0, 10);
    }

    /** The firing 0 is to be done three times for each place but the first, one behind the other, before the 1 can. */
    private static MarkingHall ramp(int places) {
        MarkingHall hall = Nets.with(places + 1, new int[places]);
        hall.arc(0, 0, Nets.GIVE, 1);
        hall.arc(0, 0, Nets.HOLD, 3);
        for (int p = 0; p < places; p++) {
            hall.arc(1, p, Nets.TEST, 3);
        }
        for (int p = 1; p < places; p++) {
            hall.arc(p + 1, p, Nets.GIVE, 1);
            hall.arc(p + 1, p, Nets.HOLD, 3);
        }
        return hall;
    }

    /** "a FIRING that is not its next one, or is": the next one of THE LOG may be done besides as well. */
    private static void itsNextOneBesides() {
        MarkingHall hall = Nets.with(2, 0);
        hall.arc(0, 0, Nets.GIVE, 1);
        hall.arc(0, 0, Nets.HOLD, 3);
        hall.arc(1, 0, Nets.TEST, 3);
        write(hall, 0, 1, 1, 1);
        goesAndCosts("two more of its next one", hall, 1, 2);
        write(hall, 0, 0, 1, 1, 1);
        goesAndCosts("one more of its next one", hall, 2, 1);
        write(hall, 0, 0, 0, 1, 1, 1);
        goesAndCosts("none more", hall, 6, 0);
        write(hall, 0, 0, 0, 0, 1, 1);
        goesAndCosts("one too many", hall, 3, 1);
    }

    private static void besidesOrOut() {
        MarkingHall hall = path(3);
        write(hall, 0, 1, 3);
        goesAndCosts("one missing or one out", hall, 2, 1);
        write(hall, 0, 1, 3, 3);
        goesAndCosts("one missing, two out", hall, 2, 1);
        write(hall, 1, 0, 2, 3);
        goesAndCosts("two the wrong way round", hall, 0, 2);
        write(hall, 2, 1, 0);
        goesAndCosts("three the wrong way round", hall, 0, 2);
        write(hall, 3, 0, 3, 1, 3, 2, 3);
        goesAndCosts("three before their time", hall, 0, 3);
        write(hall, 2, 2, 3, 2, 3, 3, 2, 3, 3, 3);
        goesAndCosts("both, here and there", hall, 0, 5);
    }

    /** "The cost is the least sum by which its end is come to, wherever in THE GRAPH that is." */
    private static void wherever() {
        MarkingHall fork = Nets.with(4, 1, 0, 0);
        Nets.moves(fork, 0, 0, 1, 1, 1);
        Nets.moves(fork, 1, 0, 1, 2, 1);
        fork.arc(2, 1, Nets.TEST, 1);
        fork.arc(3, 2, Nets.TEST, 1);
        write(fork, 2, 2, 3);
        goesAndCosts("the one branch", fork, 0, 2);
        write(fork, 2, 3, 3, 3);
        goesAndCosts("the other one", fork, 0, 2);
        write(fork, 0, 3, 3, 3);
        goesAndCosts("the first one out for the other one besides", fork, 1, 2);
        write(fork, 0);
        goesAndCosts("the end is a dead one", fork, 1, 0);
        write(fork);
        goesAndCosts("the end is the beginning", fork, 0, 0);
    }

    /** "and through THE GRAPH from the MARKING of now on": the last of 300 markings as well. */
    private static void throughTheGraph() {
        MarkingHall hall = Nets.with(3, 2, 99);
        hall.arc(0, 0, Nets.TAKE, 1);
        hall.arc(1, 1, Nets.TAKE, 1);
        hall.arc(2, 0, Nets.HOLD, 1);
        hall.arc(2, 1, Nets.HOLD, 1);
        for (int i = 0; i < 96; i++) {
            hall.fire(1);
        }
        writeTimes(hall, 10, 2);
        goesAndCosts("five besides to the last one", hall, 0, 5);
        MarkingHall whole = Nets.growing(99, 0);
        whole.place(97);
        whole.firing();
        whole.arc(2, 2, Nets.GIVE, 1);
        due.answers("300", 300, () -> whole.graph(0));
        write(whole, 2, 2, 2, 1, 1, 1, 1, 1, 0, 1);
        goesAndCosts("in 300", whole, 2, 2);
        MarkingHall back = Nets.ring(2);
        back.firing();
        back.firing();
        back.arc(2, 0, Nets.TEST, 1);
        back.arc(3, 1, Nets.TEST, 1);
        write(back, 2, 0, 3, 3, 3, 2, 2, 2);
        goesAndCosts("back to the marking of now besides", back, 5, 1);
    }

    /** "NONE if THE GRAPH is TOO GREAT" */
    private static void noneIfTooGreat() {
        MarkingHall hall = Nets.growing(57, 93);
        goesAndCosts("301, an empty log", hall, 0, NONE);
        writeTimes(hall, 10, 1);
        goesAndCosts("301, six of ten can be done", hall, 6, NONE);
        hall.fire(0);
        goesAndCosts("294", hall, 6, 4);
        due.answers("blank()", 10, hall::blank);
        goesAndCosts("294, an empty log", hall, 0, 0);
    }

    private static void logsOutliveChanges() {
        MarkingHall hall = Nets.with(1, 2);
        hall.arc(0, 0, Nets.TAKE, 1);
        hall.log(0);
        hall.log(0);
        goesAndCosts("at first", hall, 2, 0);
        hall.fire(0);
        goesAndCosts("behind a firing", hall, 1, 1);
        hall.place(0);
        hall.firing();
        goesAndCosts("behind a place and a firing", hall, 1, 1);
        hall.arc(0, 0, Nets.TAKE, 0);
        goesAndCosts("behind an arc", hall, 2, 0);
        due.answers("a new firing in the log", 3, () -> hall.log(1));
        hall.arc(1, 1, Nets.TAKE, 1);
        goesAndCosts("that cannot be done", hall, 2, 1);
        due.answers("blank()", 3, hall::blank);
    }
}
