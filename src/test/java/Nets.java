/** Nets that several tests use, and looks at all that can be asked of one. */
final class Nets {
    static final int TAKE = MarkingHall.TAKE;
    static final int GIVE = MarkingHall.GIVE;
    static final int TEST = MarkingHall.TEST;
    static final int HOLD = MarkingHall.HOLD;
    static final int EMPTY = MarkingHall.EMPTY;

    private Nets() {
    }

    static MarkingHall with(int firings, int... tokens) {
        MarkingHall hall = new MarkingHall();
        for (int t : tokens) {
            hall.place(t);
        }
        for (int f = 0; f < firings; f++) {
            hall.firing();
        }
        return hall;
    }

    /** A firing that moves tokens from one place to another. */
    static void moves(MarkingHall hall, int firing, int from, int taken, int to, int given) {
        hall.arc(firing, from, TAKE, taken);
        hall.arc(firing, to, GIVE, given);
    }

    /** One token that goes round through as many places. */
    static MarkingHall ring(int places) {
        int[] tokens = new int[places];
        tokens[0] = 1;
        MarkingHall hall = with(places, tokens);
        for (int p = 0; p < places; p++) {
            moves(hall, p, p, 1, (p + 1) % places, 1);
        }
        return hall;
    }

    /** A place that gets tokens one by one, up to 99. */
    static MarkingHall growing(int... tokens) {
        MarkingHall hall = with(tokens.length, tokens);
        for (int p = 0; p < tokens.length; p++) {
            hall.arc(p, p, GIVE, 1);
        }
        return hall;
    }

    /**
     * What a net tells of itself, without a change: some 60 calls for three
     * places and firings, below 200 for the most of them.
     */
    static String look(MarkingHall hall, int places, int firings) {
        StringBuilder all = new StringBuilder();
        for (int what = 0; what <= 3; what++) {
            all.append(" graph ").append(hall.graph(what));
        }
        for (int p = 0; p < places; p++) {
            all.append(" place ").append(hall.tokens(p)).append(' ').append(hall.most(p));
            all.append(' ').append(hall.mostByRows(p)).append(' ').append(hall.marking(0, p));
            all.append(' ').append(hall.marking(1, p)).append(' ').append(hall.way(p, 1));
            all.append(' ').append(hall.step(p, 1, 0));
        }
        for (int f = 0; f < firings; f++) {
            all.append(" firing ").append(hall.can(f)).append(' ').append(hall.level(f));
        }
        all.append(" rows ").append(rows(hall, places)).append(" rounds ").append(rounds(hall, firings));
        all.append(" siphons ").append(siphons(hall));
        for (int p = 0; p <= places; p++) {
            all.append(" trap ").append(hall.trap((1 << p) - 1));
        }
        all.append(' ').append(hall.isPromising()).append(' ').append(hall.keeps());
        return all.append(" log ").append(hall.goes()).append(' ').append(hall.cost()).toString();
    }

    /** All LEAST ROWS, one behind the other, their numbers as digits. */
    static String rows(MarkingHall hall, int places) {
        StringBuilder all = new StringBuilder();
        int count = hall.rows();
        for (int r = 0; r < count; r++) {
            for (int p = 0; p < places; p++) {
                all.append(hall.row(r, p));
            }
            all.append(' ');
        }
        return all.toString().trim();
    }

    static String rounds(MarkingHall hall, int firings) {
        StringBuilder all = new StringBuilder();
        int count = hall.rounds();
        for (int r = 0; r < count; r++) {
            for (int f = 0; f < firings; f++) {
                all.append(hall.round(r, f));
            }
            all.append(' ');
        }
        return all.toString().trim();
    }

    static String siphons(MarkingHall hall) {
        StringBuilder all = new StringBuilder();
        int count = hall.siphons();
        for (int i = 0; i < count; i++) {
            all.append(hall.siphon(i)).append(' ');
        }
        return all.toString().trim();
    }

    /**
     * What a look does not show, asked for the last time, as it changes the
     * net: how long THE LOG is, all weights, how many firings were done, how
     * many places and firings there are.
     */
    static String lastLook(MarkingHall hall, int places, int firings) {
        StringBuilder all = new StringBuilder(" logged ").append(hall.blank());
        for (int f = 0; f < firings; f++) {
            for (int p = 0; p < places; p++) {
                for (int kind = TAKE; kind <= EMPTY; kind++) {
                    all.append(" arc ").append(hall.arc(f, p, kind, 0));
                }
            }
        }
        for (int f = 0; f < firings; f++) {
            all.append(" fired ").append(hall.fire(f));
        }
        return all.append(" next ").append(Due.outcome(() -> hall.place(0)))
            .append(' ').append(Due.outcome(hall::firing)).toString();
    }
}
