/**
 * Promises 14 to 19 and the terms of rows and rounds: a test for each sentence
 * that names a boundary. The sentence stands above its test.
 */
public final class RowsRoundsEdgesTest {
    private static final Due due = new Due();
    private static final int NONE = MarkingHall.NONE;
    private static final int[] FAR = {-1, -2, -256, Integer.MIN_VALUE, 256, 1 << 16, 1 << 29, Integer.MAX_VALUE};

    public static void main(String[] args) {
        rowNumbersFrom0To3();
        roundNumbersFrom0To2();
        not0ForAll();
        rowsAre0WhereEmptied();
        roundsAre0WhereEmptying();
        giveLessTake();
        forEachFiringAndPlace();
        leastRowsOnly();
        leastRoundsOnly();
        numberedByTheirNumbers();
        netsWithoutPlacesOrFirings();
        noSuchLeastRow();
        noSuchLeastRound();
        mostOfTheLeastSum();
        mostIsRoundedDown();
        mostOfTokensOfNow();
        noneWithoutSuchALeastRow();
        keeps();
        due.end();
    }

    /** Each firing takes from a place and gives to the next one: the weights in this order. */
    private static MarkingHall chain(int... weights) {
        MarkingHall hall = Nets.with(weights.length / 2, new int[weights.length / 2 + 1]);
        for (int f = 0; f < weights.length / 2; f++) {
            Nets.moves(hall, f, f, weights[2 * f], f + 1, weights[2 * f + 1]);
        }
        return hall;
    }

    /** Each firing gives to a place from which the next one takes: the weights in this order. */
    private static MarkingHall relay(int... weights) {
        MarkingHall hall = Nets.with(weights.length / 2 + 1, new int[weights.length / 2]);
        for (int p = 0; p < weights.length / 2; p++) {
            hall.arc(p, p, Nets.GIVE, weights[2 * p]);
            hall.arc(p + 1, p, Nets.TAKE, weights[2 * p + 1]);
        }
        return hall;
    }

    /** "A ROW is a number of 0 to 3 for each PLACE" */
    private static void rowNumbersFrom0To3() {
        String[][] rows = {
            {"01 10", "10", "10", "10"},
            {"01", "11", "21", "31"},
            {"01", "12", "11", "32"},
            {"01", "13", "23", "11"},
        };
        for (int take = 0; take <= 3; take++) {
            for (int give = 0; give <= 3; give++) {
                due.is("takes " + take + ", gives " + give, rows[take][give], Nets.rows(chain(take, give), 2));
            }
        }
        due.is("two of 3", "331", Nets.rows(chain(1, 1, 1, 3), 3));
        due.is("3 of the first", "311", Nets.rows(chain(1, 3, 1, 1), 3));
        due.is("3 of the last", "123", Nets.rows(chain(2, 1, 3, 2), 3));
        due.is("down from 3", "321", Nets.rows(chain(2, 3, 1, 2), 3));
        due.is("4 of the first is too many", "", Nets.rows(chain(1, 2, 1, 2), 3));
        due.is("4 of the last is too many", "", Nets.rows(chain(2, 1, 2, 1), 3));
        due.is("6 is too many", "", Nets.rows(chain(1, 2, 1, 3), 3));
        due.is("3 in six places", "333332", Nets.rows(chain(1, 1, 1, 1, 1, 1, 1, 1, 2, 3), 6));
        due.is("3 in the last of six", "111113", Nets.rows(chain(1, 1, 1, 1, 1, 1, 1, 1, 3, 1), 6));
    }

    /** "A ROUND is a number of 0 to 2 for each FIRING" */
    private static void roundNumbersFrom0To2() {
        String[][] rounds = {
            {"01 10", "10", "10", "10"},
            {"01", "11", "21", ""},
            {"01", "12", "11", ""},
            {"01", "", "", "11"},
        };
        for (int give = 0; give <= 3; give++) {
            for (int take = 0; take <= 3; take++) {
                due.is("gives " + give + ", takes " + take, rounds[give][take], Nets.rounds(relay(give, take), 2));
            }
        }
        due.is("two of 2", "221", Nets.rounds(relay(1, 1, 1, 2), 3));
        due.is("2 in the middle", "121", Nets.rounds(relay(2, 1, 1, 2), 3));
        due.is("2 at both ends", "212", Nets.rounds(relay(1, 2, 2, 1), 3));
        due.is("4 is too many", "", Nets.rounds(relay(1, 2, 1, 2), 3));
        due.is("3 is too many, in the middle too", "", Nets.rounds(relay(3, 1, 1, 3), 3));
        due.is("2 in seven firings", "2222221", Nets.rounds(relay(1, 1, 1, 1, 1, 1, 1, 1, 1, 1, 1, 2), 7));
        due.is("2 in the last of seven", "1111112", Nets.rounds(relay(1, 1, 1, 1, 1, 1, 1, 1, 1, 1, 2, 1), 7));
        MarkingHall eight = relay(1, 1, 1, 1, 1, 1, 1, 1, 1, 1, 1, 2);
        eight.firing();
        due.is("and an idle one", "00000001 22222210", Nets.rounds(eight, 8));
        eight.arc(7, 5, Nets.TAKE, 1);
        due.is("an eighth that takes as well", "11111101 22222210", Nets.rounds(eight, 8));
        eight.arc(6, 5, Nets.TAKE, 3);
        due.is("the seventh only beside the eighth", "11111101", Nets.rounds(eight, 8));
    }

    /** "not 0 for all" */
    private static void not0ForAll() {
        MarkingHall none = Nets.with(1, 0);
        none.arc(0, 0, Nets.GIVE, 1);
        due.answers("no row", 0, none::rows);
        due.answers("no round", 0, none::rounds);
        due.noSuch("row(0, 0)", () -> none.row(0, 0));
        due.noSuch("round(0, 0)", () -> none.round(0, 0));
        due.answers("by rows", NONE, () -> none.mostByRows(0));
        due.is("one row", "1", Nets.rows(Nets.with(1, 0), 1));
        due.is("one round", "1", Nets.rounds(Nets.with(1, 0), 1));
        MarkingHall six = Nets.with(8, 0, 0, 0, 0, 0, 0);
        for (int i = 0; i < 8; i++) {
            six.arc(i, i % 6, Nets.TAKE, 1);
        }
        due.answers("six drained places have no row", 0, six::rows);
        due.answers("eight that drain have no round", 0, six::rounds);
    }

    /** The unit vectors of a width but for one, in rising order. */
    private static String unitsBut(int left, int width) {
        StringBuilder all = new StringBuilder();
        for (int i = width - 1; i >= 0; i--) {
            for (int at = 0; at < width && i != left; at++) {
                all.append(at == i ? 1 : 0);
            }
            all.append(i != left ? " " : "");
        }
        return all.toString().trim();
    }

    /** "0 for each PLACE that some FIRING EMPTIES (whether that can be done or not)" */
    private static void rowsAre0WhereEmptied() {
        for (int p = 0; p < 6; p++) {
            for (int f = 0; f < 8; f++) {
                MarkingHall hall = Nets.with(8, 1, 1, 1, 1, 1, 1);
                int place = p;
                hall.arc(f, p, Nets.EMPTY, 1);
                due.is("firing " + f + " empties place " + p, unitsBut(p, 6), Nets.rows(hall, 6));
                hall.arc(f, 5 - p, Nets.TEST, 3);
                due.is("and cannot be done", unitsBut(p, 6), Nets.rows(hall, 6));
                due.answers("no bound of it", NONE, () -> hall.mostByRows(place));
                due.answers("one of another", 1, () -> hall.mostByRows(5 - place));
                hall.arc(f, p, Nets.EMPTY, 0);
                due.is("no longer emptied", unitsBut(NONE, 6), Nets.rows(hall, 6));
            }
        }
        MarkingHall ring = Nets.ring(6);
        due.is("a ring", "111111", Nets.rows(ring, 6));
        ring.firing();
        ring.arc(6, 3, Nets.EMPTY, 1);
        due.is("with an emptied place", "", Nets.rows(ring, 6));
    }

    /** "and 0 for each FIRING that EMPTIES some PLACE" */
    private static void roundsAre0WhereEmptying() {
        for (int f = 0; f < 8; f++) {
            for (int p = 0; p < 6; p++) {
                MarkingHall hall = Nets.with(8, 0, 0, 0, 0, 0, 0);
                hall.arc(f, p, Nets.EMPTY, 1);
                due.is("firing " + f + " empties place " + p, unitsBut(f, 8), Nets.rounds(hall, 8));
                hall.arc(f, 5 - p, Nets.TEST, 3);
                due.is("and cannot be done", unitsBut(f, 8), Nets.rounds(hall, 8));
                hall.arc(f, p, Nets.EMPTY, 0);
                due.is("empties no longer", unitsBut(NONE, 8), Nets.rounds(hall, 8));
            }
        }
        MarkingHall ring = Nets.ring(5);
        ring.place(7);
        due.is("a ring", "11111", Nets.rounds(ring, 5));
        ring.arc(4, 5, Nets.EMPTY, 1);
        due.is("one of it empties another place", "", Nets.rounds(ring, 5));
        due.is("its row stays", "111110", Nets.rows(ring, 6));
    }

    /** "the number times (the weight of GIVE less that of TAKE)": the weights of TEST and HOLD are none of them. */
    private static void giveLessTake() {
        for (int i = 0; i < 16; i++) {
            int take = i % 4;
            int give = i / 4;
            MarkingHall hall = Nets.with(2, 0, 0);
            hall.arc(0, 0, Nets.TAKE, take);
            hall.arc(0, 0, Nets.GIVE, give);
            hall.arc(0, 1, Nets.TEST, 3);
            hall.arc(0, 0, Nets.HOLD, 3);
            String title = "TAKE " + take + ", GIVE " + give + " of one place";
            due.is(title + ", rows", take == give ? "01 10" : "01", Nets.rows(hall, 2));
            due.is(title + ", rounds", take == give ? "01 10" : "01", Nets.rounds(hall, 2));
            hall.arc(1, 0, Nets.TAKE, give);
            hall.arc(1, 0, Nets.GIVE, take);
            due.is(title + ", and back", take == give ? "01 10" : "11", Nets.rounds(hall, 2));
        }
        MarkingHall less = chain(3, 3);
        less.arc(0, 0, Nets.GIVE, 1);
        due.is("2a = 3b", "32", Nets.rows(less, 2));
        less.arc(0, 1, Nets.TAKE, 2);
        due.is("2a = b", "12", Nets.rows(less, 2));
        less.arc(0, 0, Nets.GIVE, 3);
        due.is("0a = b", "10", Nets.rows(less, 2));
    }

    /** "so that for each FIRING the sum over PLACES ... is 0"; "so that for each PLACE the sum over FIRINGS ..." */
    private static void forEachFiringAndPlace() {
        for (int f = 0; f < 8; f++) {
            for (int p = 0; p < 6; p++) {
                for (int kind = Nets.TAKE; kind <= Nets.GIVE; kind++) {
                    MarkingHall hall = Nets.with(8, 0, 0, 0, 0, 0, 0);
                    hall.arc(f, p, kind, 3);
                    due.is("rows but " + p, unitsBut(p, 6), Nets.rows(hall, 6));
                    due.is("rounds but " + f, unitsBut(f, 8), Nets.rounds(hall, 8));
                }
            }
        }
    }

    /** "It is LEAST, if there is no other ROW all of whose numbers are at most its own." */
    private static void leastRowsOnly() {
        due.is("11, not 22 or 33", "11", Nets.rows(chain(2, 2), 2));
        due.is("not 11 beside 01 and 10", "01 10", Nets.rows(chain(0, 0), 2));
        MarkingHall hall = Nets.with(1, 0, 0, 0);
        hall.arc(0, 0, Nets.TAKE, 2);
        hall.arc(0, 1, Nets.GIVE, 1);
        hall.arc(0, 2, Nets.GIVE, 1);
        due.is("2a = b + c, and 111 is between", "102 111 120", Nets.rows(hall, 3));
        hall.arc(0, 0, Nets.TAKE, 3);
        due.is("3a = b + c", "103 112 121 130", Nets.rows(hall, 3));
        hall.arc(0, 1, Nets.GIVE, 3);
        due.is("3a = 3b + c, not 213 above 110", "103 110", Nets.rows(hall, 3));
        hall.arc(0, 2, Nets.GIVE, 0);
        due.is("3a = 3b", "001 110", Nets.rows(hall, 3));
    }

    private static void leastRoundsOnly() {
        due.is("11, not 22", "11", Nets.rounds(relay(3, 3), 2));
        due.is("not 11 beside 01 and 10", "01 10", Nets.rounds(relay(0, 0), 2));
        MarkingHall hall = Nets.with(3, 0);
        hall.arc(0, 0, Nets.GIVE, 2);
        hall.arc(1, 0, Nets.TAKE, 1);
        hall.arc(2, 0, Nets.TAKE, 1);
        due.is("2a = b + c, and 111 is between", "102 111 120", Nets.rounds(hall, 3));
        hall.arc(0, 0, Nets.GIVE, 3);
        due.is("3a = b + c", "112 121", Nets.rounds(hall, 3));
        hall.arc(1, 0, Nets.TAKE, 3);
        due.is("3a = 3b + c", "110", Nets.rounds(hall, 3));
        hall.arc(2, 0, Nets.TAKE, 0);
        due.is("3a = 3b", "001 110", Nets.rounds(hall, 3));
    }

    /** "by their numbers, that of the PLACE 0 first, then that of the PLACE 1, and so on, the lower first" */
    private static void numberedByTheirNumbers() {
        MarkingHall pairs = Nets.with(3, 0, 0, 0, 0, 0, 0);
        for (int f = 0; f < 3; f++) {
            Nets.moves(pairs, f, f, 1, 5 - f, 1);
        }
        due.is("rows", "001100 010010 100001", Nets.rows(pairs, 6));
        MarkingHall weighted = Nets.with(1, 0, 0, 0);
        Nets.moves(weighted, 0, 0, 2, 1, 3);
        weighted.arc(0, 2, Nets.TAKE, 1);
        due.is("2a + c = 3b", "013 111 320", Nets.rows(weighted, 3));
        MarkingHall back = Nets.with(8, 0, 0, 0, 0);
        for (int p = 0; p < 4; p++) {
            back.arc(p, p, Nets.GIVE, 1);
            back.arc(7 - p, p, Nets.TAKE, 1);
        }
        due.is("rounds", "00011000 00100100 01000010 10000001", Nets.rounds(back, 8));
        back.arc(3, 3, Nets.TAKE, 2);
        due.is("one less", "00100100 01000010 10000001", Nets.rounds(back, 8));
    }

    private static void netsWithoutPlacesOrFirings() {
        for (int count = 0; count <= 8; count++) {
            MarkingHall firings = Nets.with(count);
            due.is("rows of " + count + " firings", "", Nets.rows(firings, 0));
            due.is("rounds of " + count + " firings", unitsBut(NONE, count), Nets.rounds(firings, count));
            due.answers("they keep", true, firings::keeps);
        }
        for (int count = 0; count <= 6; count++) {
            MarkingHall places = Nets.with(0, new int[count]);
            due.is("rows of " + count + " places", unitsBut(NONE, count), Nets.rows(places, count));
            due.is("rounds of " + count + " places", "", Nets.rounds(places, 0));
            due.answers("they keep", true, places::keeps);
        }
    }

    /** "IndexOutOfBoundsException as told, of the LEAST ROW and PLACE" */
    private static void noSuchLeastRow() {
        for (int places = 1; places <= 6; places++) {
            int last = places - 1;
            MarkingHall hall = Nets.with(0, new int[places]);
            due.answers("the last row", 1, () -> hall.row(last, 0));
            due.answers("its last place", last == 0 ? 1 : 0, () -> hall.row(last, last));
            due.noSuch("one row more", () -> hall.row(last + 1, 0));
            due.noSuch("one place more", () -> hall.row(last, last + 1));
            for (int far : FAR) {
                due.noSuch("row(" + far + ", 0)", () -> hall.row(far, 0));
                due.noSuch("row(0, " + far + ")", () -> hall.row(0, far));
            }
        }
        due.noSuch("row(0, 0) of nothing", () -> new MarkingHall().row(0, 0));
        due.noSuch("row(0, 0) of firings alone", () -> Nets.with(2).row(0, 0));
    }

    /** "IndexOutOfBoundsException as told, of the LEAST ROUND and FIRING" */
    private static void noSuchLeastRound() {
        for (int firings = 1; firings <= 8; firings++) {
            int last = firings - 1;
            MarkingHall hall = Nets.with(firings);
            due.answers("the last round", 1, () -> hall.round(last, 0));
            due.answers("its last firing", last == 0 ? 1 : 0, () -> hall.round(last, last));
            due.noSuch("one round more", () -> hall.round(last + 1, 0));
            due.noSuch("one firing more", () -> hall.round(last, last + 1));
            for (int far : FAR) {
                due.noSuch("round(" + far + ", 0)", () -> hall.round(far, 0));
                due.noSuch("round(0, " + far + ")", () -> hall.round(0, far));
            }
        }
        due.noSuch("round(0, 0) of nothing", () -> new MarkingHall().round(0, 0));
        due.noSuch("round(0, 0) of places alone", () -> Nets.with(0, 1).round(0, 0));
    }

    /** "of the LEAST ROWS with a number above 0 for it the least of the sum over all PLACES ..." */
    private static void mostOfTheLeastSum() {
        int[][] tokens = {{1, 6, 4, 2}, {6, 1, 2, 4}, {0, 0, 99, 99}, {99, 99, 99, 99}, {0, 0, 0, 0}, {5, 0, 0, 5}};
        int[][] most = {{3, 8, 5, 3}, {8, 3, 3, 5}, {99, 99, 99, 99}, {198, 198, 198, 198}, {0, 0, 0, 0}, {5, 0, 0, 5}};
        for (int i = 0; i < tokens.length; i++) {
            MarkingHall hall = Nets.with(1, tokens[i]);
            Nets.moves(hall, 0, 0, 1, 2, 1);
            Nets.moves(hall, 0, 1, 1, 3, 1);
            // Its rows are 0101, 0110, 1001 and 1010.
            for (int p = 0; p < 4; p++) {
                int place = p;
                due.answers("net " + i + ", place " + p, most[i][p], () -> hall.mostByRows(place));
            }
        }
        due.answers("no row but its own", 4, () -> Nets.with(0, 9, 4, 0).mostByRows(1));
        due.answers("six places of 99", 594, () -> ofSix(99).mostByRows(5));
        due.answers("six places of 1", 6, () -> ofSix(1).mostByRows(0));
    }

    private static MarkingHall ofSix(int tokens) {
        MarkingHall hall = Nets.with(5, tokens, tokens, tokens, tokens, tokens, tokens);
        for (int f = 0; f < 5; f++) {
            Nets.moves(hall, f, f, 1, f + 1, 1);
        }
        return hall;
    }

    /** "divided by the number of that PLACE, rounded down" */
    private static void mostIsRoundedDown() {
        for (int[] t : new int[][] {{0, 0}, {0, 1}, {1, 0}, {0, 2}, {1, 1}, {2, 0}, {2, 1}, {99, 99}, {98, 99}}) {
            MarkingHall hall = Nets.with(1, t);
            Nets.moves(hall, 0, 0, 2, 1, 3);
            int sum = 3 * t[0] + 2 * t[1];
            due.answers(sum + " by 3", sum / 3, () -> hall.mostByRows(0));
            due.answers(sum + " by 2", sum / 2, () -> hall.mostByRows(1));
        }
        // Of the rows 103, 112, 121 and 130 the sums are 9, 6 + 1, 3 + 2 and 3.
        MarkingHall several = Nets.with(1, 0, 1, 3);
        several.arc(0, 0, Nets.TAKE, 3);
        several.arc(0, 1, Nets.GIVE, 1);
        several.arc(0, 2, Nets.GIVE, 1);
        due.answers("the least of 9, 7, 5 and 3", 3, () -> several.mostByRows(0));
        due.answers("the least of 7, 5 / 2 and 3 / 3", 1, () -> several.mostByRows(1));
        due.answers("the least of 9 / 3, 7 / 2 and 5", 3, () -> several.mostByRows(2));
    }

    /** "times TOKENS of now" */
    private static void mostOfTokensOfNow() {
        MarkingHall hall = Nets.with(2, 5, 1);
        Nets.moves(hall, 0, 0, 1, 1, 1);
        due.answers("at first", 6, () -> hall.mostByRows(1));
        hall.arc(1, 0, Nets.EMPTY, 1);
        due.answers("while it is emptied", NONE, () -> hall.mostByRows(0));
        due.answers("and taken from", NONE, () -> hall.mostByRows(1));
        hall.fire(0);
        hall.fire(1);
        hall.arc(1, 0, Nets.EMPTY, 0);
        due.answers("behind that", 2, () -> hall.mostByRows(0));
        hall.place(7);
        due.answers("a new place by itself", 7, () -> hall.mostByRows(2));
        hall.arc(1, 2, Nets.TAKE, 1);
        hall.fire(1);
        due.answers("drained", NONE, () -> hall.mostByRows(2));
        hall.arc(1, 2, Nets.TAKE, 0);
        due.answers("has 6", 6, () -> hall.mostByRows(2));
    }

    /** "Returns NONE without such a LEAST ROW." */
    private static void noneWithoutSuchALeastRow() {
        MarkingHall hall = Nets.with(1, 4, 0, 9);
        hall.arc(0, 1, Nets.GIVE, 1);
        due.answers("before it", 4, () -> hall.mostByRows(0));
        due.answers("one that grows", NONE, () -> hall.mostByRows(1));
        due.answers("behind it", 9, () -> hall.mostByRows(2));
        MarkingHall chained = chain(1, 2, 1, 2);
        for (int p = 0; p < 3; p++) {
            int place = p;
            due.answers("without a row up to 3", NONE, () -> chained.mostByRows(place));
        }
        for (int far : FAR) {
            due.noSuch("mostByRows(" + far + ")", () -> hall.mostByRows(far));
        }
        due.noSuch("mostByRows(3)", () -> hall.mostByRows(3));
        due.noSuch("mostByRows(0) of nothing", () -> new MarkingHall().mostByRows(0));
    }

    /** "and no PLACE has more TOKENS in one of these than by ROWS; true, if it is TOO GREAT" */
    private static void keeps() {
        due.answers("nothing", true, () -> new MarkingHall().keeps());
        due.answers("a place without a row has no bound", true, () -> Nets.growing(98).keeps());
        due.answers("one with a row, one without", true, () -> beside(99).keeps());
        due.answers("TOO GREAT", true, () -> Nets.growing(0, 0, 0).keeps());
        due.answers("TOO GREAT, with a row", true, () -> beside(9).keeps());
        MarkingHall hall = Nets.with(3, 3, 0, 5);
        Nets.moves(hall, 0, 0, 3, 1, 2);
        Nets.moves(hall, 1, 1, 2, 0, 3);
        hall.arc(2, 2, Nets.EMPTY, 1);
        hall.arc(2, 2, Nets.GIVE, 1);
        due.is("2a + 3b", "230", Nets.rows(hall, 3));
        due.answers("a bound that is come to", 2, () -> hall.mostByRows(1));
        due.answers("as most tells", 2, () -> hall.most(1));
        due.answers("keeps", true, hall::keeps);
        hall.fire(0);
        hall.fire(2);
        due.answers("keeps behind firings", true, hall::keeps);
        keepsByWhatIsNow();
    }

    /** Rows and THE GRAPH of before would not fit to what is now. */
    private static void keepsByWhatIsNow() {
        MarkingHall hall = Nets.with(1, 3, 0);
        for (int give : new int[] {1, 2, 3, 1}) {
            Nets.moves(hall, 0, 0, 1, 1, give);
            due.answers("keeps by weights of " + give, true, hall::keeps);
            due.answers("rows of " + give, give, () -> hall.row(0, 0));
            due.answers("markings of " + give, 4, () -> hall.graph(0));
        }
        hall.fire(0);
        due.answers("keeps behind a firing", true, hall::keeps);
        hall.place(5);
        due.answers("keeps behind a new place", true, hall::keeps);
    }

    /** Tokens between two places, and a third place that grows: 31 markings for each number that it comes to. */
    private static MarkingHall beside(int third) {
        MarkingHall hall = Nets.with(3, 30, 0, third);
        Nets.moves(hall, 0, 0, 1, 1, 1);
        Nets.moves(hall, 1, 1, 1, 0, 1);
        hall.arc(2, 2, Nets.GIVE, 1);
        return hall;
    }
}
