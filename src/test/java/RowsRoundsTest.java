/** Promises 14 to 19: rows, row, mostByRows, rounds, round, keeps. */
public final class RowsRoundsTest {
    private static final Due due = new Due();
    private static final int NONE = MarkingHall.NONE;

    public static void main(String[] args) {
        rowsWithoutFirings();
        ringOfRows();
        weightedRows();
        leastRowsAlone();
        rowsAndEmpty();
        rowsUpTo3();
        mostByRows();
        rounds();
        roundsUpTo2();
        roundsAndEmpty();
        keeps();
        wrongArguments();
        due.end();
    }

    private static void rowsWithoutFirings() {
        due.is("rows of nothing", "", Nets.rows(new MarkingHall(), 0));
        due.is("rows without firings", "001 010 100", Nets.rows(Nets.with(0, 1, 2, 3), 3));
        due.is("six of them", "000001 000010 000100 001000 010000 100000",
            Nets.rows(Nets.with(0, 1, 2, 3, 4, 5, 6), 6));
        due.is("rows without arcs", "01 10", Nets.rows(Nets.with(8, 1, 1), 2));
    }

    private static void ringOfRows() {
        due.is("rows of a ring", "111111", Nets.rows(Nets.ring(6), 6));
        due.answers("row(0, 5) first", 1, () -> Nets.ring(6).row(0, 5));
        due.answers("mostByRows(5) first", 1, () -> Nets.ring(6).mostByRows(5));
        due.answers("round(0, 5) first", 1, () -> Nets.ring(6).round(0, 5));
        MarkingHall last = Nets.with(8, 1, 0);
        Nets.moves(last, 7, 0, 1, 1, 1);
        due.is("only the last firing has arcs", "11", Nets.rows(last, 2));
        last.arc(7, 1, Nets.GIVE, 2);
        due.is("behind another weight", "21", Nets.rows(last, 2));
        last.place(3);
        due.is("behind a new place", "001 210", Nets.rows(last, 3));
        last.arc(0, 2, Nets.TAKE, 1);
        due.is("behind another arc", "210", Nets.rows(last, 3));
    }

    private static void weightedRows() {
        MarkingHall hall = Nets.with(1, 0, 0, 0);
        Nets.moves(hall, 0, 0, 2, 1, 3);
        hall.arc(0, 2, Nets.TAKE, 1);
        // 2a + c = 3b
        due.is("2a + c = 3b", "013 111 320", Nets.rows(hall, 3));
        hall.arc(0, 0, Nets.TEST, 3);
        hall.arc(0, 1, Nets.HOLD, 3);
        due.is("TEST and HOLD are nothing to rows", "013 111 320", Nets.rows(hall, 3));
        hall.arc(0, 2, Nets.GIVE, 1);
        due.is("GIVE less TAKE", "001 320", Nets.rows(hall, 3));
    }

    private static void leastRowsAlone() {
        MarkingHall hall = Nets.with(1, 0, 0, 0, 0);
        Nets.moves(hall, 0, 0, 1, 2, 1);
        Nets.moves(hall, 0, 1, 1, 3, 1);
        // a + b = c + d
        due.is("a + b = c + d", "0101 0110 1001 1010", Nets.rows(hall, 4));
        hall.arc(0, 3, Nets.GIVE, 2);
        // a + b = c + 2d
        due.is("a + b = c + 2d", "0110 0201 1010 1101 2001", Nets.rows(hall, 4));
    }

    private static void rowsAndEmpty() {
        MarkingHall hall = Nets.with(2, 0, 1, 1);
        Nets.moves(hall, 0, 1, 1, 2, 1);
        hall.arc(1, 0, Nets.EMPTY, 1);
        due.is("an emptied place has 0", "011", Nets.rows(hall, 3));
        hall.arc(1, 2, Nets.TEST, 3);
        hall.arc(1, 2, Nets.EMPTY, 1);
        due.is("so one that cannot be emptied", "", Nets.rows(hall, 3));
        hall.arc(1, 2, Nets.EMPTY, 0);
        hall.arc(1, 0, Nets.EMPTY, 0);
        due.is("no longer emptied", "011 100", Nets.rows(hall, 3));
        hall.arc(0, 0, Nets.EMPTY, 1);
        due.is("emptied by the first firing", "011", Nets.rows(hall, 3));
        due.answers("mostByRows(0) of an emptied place", NONE, () -> hall.mostByRows(0));
    }

    private static void rowsUpTo3() {
        MarkingHall hall = Nets.with(2, 0, 0, 0);
        Nets.moves(hall, 0, 0, 1, 1, 3);
        due.is("a = 3b", "001 310", Nets.rows(hall, 3));
        Nets.moves(hall, 1, 1, 1, 2, 2);
        due.is("b = 2c, a = 6c is too many", "", Nets.rows(hall, 3));
    }

    private static void mostByRows() {
        MarkingHall hall = Nets.with(2, 5, 1, 0, 7);
        Nets.moves(hall, 0, 0, 2, 1, 3);
        hall.arc(1, 3, Nets.EMPTY, 1);
        // rows 0010 and 3200; 3 * 5 + 2 * 1 = 17
        due.answers("17 / 3", 5, () -> hall.mostByRows(0));
        due.answers("17 / 2", 8, () -> hall.mostByRows(1));
        due.answers("of a row with tokens 0", 0, () -> hall.mostByRows(2));
        due.answers("without a row", NONE, () -> hall.mostByRows(3));
        hall.fire(0);
        due.answers("a firing keeps the sum", 5, () -> hall.mostByRows(0));
        MarkingHall several = Nets.with(1, 1, 6, 4, 2);
        Nets.moves(several, 0, 0, 1, 2, 1);
        Nets.moves(several, 0, 1, 1, 3, 1);
        // rows b+d, b+c, a+d, a+c
        due.answers("the least of 3 and 5", 3, () -> several.mostByRows(0));
        due.answers("the least of 8 and 10", 8, () -> several.mostByRows(1));
        due.answers("the least of 10 and 5", 5, () -> several.mostByRows(2));
        due.answers("the least of 8 and 3", 3, () -> several.mostByRows(3));
        due.answers("great", 99, () -> Nets.with(0, 99).mostByRows(0));
    }

    private static void rounds() {
        due.is("rounds of nothing", "", Nets.rounds(new MarkingHall(), 0));
        due.is("without places", "001 010 100", Nets.rounds(Nets.with(3), 3));
        due.is("of a ring", "111111", Nets.rounds(Nets.ring(6), 6));
        MarkingHall hall = Nets.with(4, 0, 0);
        Nets.moves(hall, 0, 0, 1, 1, 1);
        Nets.moves(hall, 1, 1, 1, 0, 1);
        Nets.moves(hall, 2, 1, 2, 0, 2);
        due.is("two ways back and one idle", "0001 1100 2010", Nets.rounds(hall, 4));
        hall.arc(3, 1, Nets.TAKE, 1);
        hall.arc(3, 1, Nets.GIVE, 1);
        due.is("GIVE less TAKE", "0001 1100 2010", Nets.rounds(hall, 4));
        hall.arc(3, 0, Nets.TEST, 2);
        due.is("TEST is nothing to rounds", "0001 1100 2010", Nets.rounds(hall, 4));
        hall.arc(3, 1, Nets.GIVE, 2);
        due.is("no more idle", "1100 2010", Nets.rounds(hall, 4));
        hall.place(1);
        hall.arc(1, 2, Nets.TAKE, 1);
        due.is("all places count", "2010", Nets.rounds(hall, 4));
        due.is("with a firing more", "00001 20100", fiveRounds(hall));
    }

    private static String fiveRounds(MarkingHall hall) {
        hall.firing();
        return Nets.rounds(hall, 5);
    }

    private static void roundsUpTo2() {
        MarkingHall hall = Nets.with(2, 0, 0);
        Nets.moves(hall, 0, 0, 1, 1, 1);
        Nets.moves(hall, 1, 1, 3, 0, 3);
        due.is("3 times is too many", "", Nets.rounds(hall, 2));
        Nets.moves(hall, 1, 1, 2, 0, 2);
        due.is("twice", "21", Nets.rounds(hall, 2));
    }

    private static void roundsAndEmpty() {
        MarkingHall hall = Nets.with(3, 1, 0, 4);
        Nets.moves(hall, 0, 0, 1, 1, 1);
        Nets.moves(hall, 1, 1, 1, 0, 1);
        due.is("before EMPTY", "001 110", Nets.rounds(hall, 3));
        hall.arc(2, 2, Nets.EMPTY, 1);
        due.is("one that empties has 0", "110", Nets.rounds(hall, 3));
        hall.arc(0, 2, Nets.EMPTY, 1);
        due.is("so has one of a round", "", Nets.rounds(hall, 3));
    }

    private static void keeps() {
        due.answers("keeps of nothing", true, () -> new MarkingHall().keeps());
        due.answers("keeps of a ring", true, () -> Nets.ring(6).keeps());
        due.answers("keeps of a too great one", true, () -> Nets.growing(0, 0).keeps());
        MarkingHall hall = Nets.with(3, 5, 1, 0, 7);
        Nets.moves(hall, 0, 0, 2, 1, 3);
        Nets.moves(hall, 1, 1, 3, 0, 2);
        hall.arc(2, 3, Nets.EMPTY, 1);
        due.answers("keeps", true, hall::keeps);
        hall.fire(2);
        hall.fire(0);
        due.answers("keeps behind firings", true, hall::keeps);
        hall.arc(1, 0, Nets.GIVE, 1);
        due.answers("keeps behind an arc", true, hall::keeps);
    }

    private static void wrongArguments() {
        MarkingHall hall = Nets.ring(3);
        for (int wrong : new int[] {-1, 1, 2, Integer.MIN_VALUE, Integer.MAX_VALUE}) {
            due.noSuch("row(" + wrong + ", 0)", () -> hall.row(wrong, 0));
            due.noSuch("round(" + wrong + ", 0)", () -> hall.round(wrong, 0));
        }
        for (int wrong : new int[] {-1, 3, Integer.MIN_VALUE, Integer.MAX_VALUE}) {
            due.noSuch("row(0, " + wrong + ")", () -> hall.row(0, wrong));
            due.noSuch("round(0, " + wrong + ")", () -> hall.round(0, wrong));
            due.noSuch("mostByRows(" + wrong + ")", () -> hall.mostByRows(wrong));
        }
        due.answers("row(0, 2)", 1, () -> hall.row(0, 2));
        due.answers("round(0, 2)", 1, () -> hall.round(0, 2));
        due.noSuch("row(0, 0) of nothing", () -> new MarkingHall().row(0, 0));
        due.noSuch("round(0, 0) of nothing", () -> new MarkingHall().round(0, 0));
    }
}
