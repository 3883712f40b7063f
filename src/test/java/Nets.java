/** Nets that several tests use, and a picture of all that can be asked of one. */
final class Nets {
    static final int TAKE = MarkingHall.TAKE;
    static final int GIVE = MarkingHall.GIVE;
    static final int TEST = MarkingHall.TEST;
    static final int HOLD = MarkingHall.HOLD;
    static final int EMPTY = MarkingHall.EMPTY;

    private Nets() {
    }

    static MarkingHall with(int firings, int... tokens) {
        MarkingHall hall = new MarkingHall();
        for (int t : tokens) {
            hall.place(t);
        }
        for (int f = 0; f < firings; f++) {
            hall.firing();
        }
        return hall;
    }

    /** A firing that moves tokens from one place to another. */
    static void moves(MarkingHall hall, int firing, int from, int taken, int to, int given) {
        hall.arc(firing, from, TAKE, taken);
        hall.arc(firing, to, GIVE, given);
    }

    /** One token that goes round through as many places. */
    static MarkingHall ring(int places) {
        int[] tokens = new int[places];
        tokens[0] = 1;
        MarkingHall hall = with(places, tokens);
        for (int p = 0; p < places; p++) {
            moves(hall, p, p, 1, (p + 1) % places, 1);
        }
        return hall;
    }

    /** A place that gets tokens one by one, up to 99. */
    static MarkingHall growing(int... tokens) {
        MarkingHall hall = with(tokens.length, tokens);
        for (int p = 0; p < tokens.length; p++) {
            hall.arc(p, p, GIVE, 1);
        }
        return hall;
    }

    /** All that can be asked of a small net; what it does last changes the net, so it is asked once. */
    static String picture(MarkingHall hall, int places, int firings) {
        StringBuilder all = new StringBuilder();
        for (int what = 0; what <= 3; what++) {
            all.append(" graph ").append(hall.graph(what));
        }
        for (int p = 0; p < places; p++) {
            all.append(" place ").append(hall.tokens(p)).append(' ').append(hall.most(p));
            all.append(' ').append(hall.mostByRows(p)).append(' ').append(hall.marking(1, p));
            all.append(' ').append(hall.way(p, 1)).append(' ').append(hall.step(p, 1, 0));
        }
        for (int f = 0; f < firings; f++) {
            all.append(" firing ").append(hall.can(f)).append(' ').append(hall.level(f));
        }
        for (int r = 0; r < hall.rows(); r++) {
            for (int p = 0; p < places; p++) {
                all.append(" row ").append(hall.row(r, p));
            }
        }
        for (int r = 0; r < hall.rounds(); r++) {
            for (int f = 0; f < firings; f++) {
                all.append(" round ").append(hall.round(r, f));
            }
        }
        for (int i = 0; i < hall.siphons(); i++) {
            all.append(" siphon ").append(hall.siphon(i));
        }
        all.append(" trap ").append(hall.trap((1 << places) - 1));
        all.append(' ').append(hall.isPromising()).append(' ').append(hall.keeps());
        all.append(" log ").append(hall.goes()).append(' ').append(hall.cost());
        all.append(' ').append(hall.blank());
        for (int f = 0; f < firings; f++) {
            for (int p = 0; p < places; p++) {
                for (int kind = TAKE; kind <= EMPTY; kind++) {
                    all.append(" arc ").append(hall.arc(f, p, kind, 0));
                }
            }
        }
        for (int f = 0; f < firings; f++) {
            all.append(" fired ").append(hall.fire(f));
        }
        return all.append(" next ").append(Due.outcome(() -> hall.place(0)))
            .append(' ').append(Due.outcome(hall::firing)).toString();
    }
}
