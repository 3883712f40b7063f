import java.util.Arrays;

/** A house of places and tokens. What each call promises is told in ../shared/DOC.md. */
public final class MarkingHall {
    public static final int NONE = -1;
    public static final int TAKE = 0, GIVE = 1, TEST = 2, HOLD = 3, EMPTY = 4;

    private static final int KINDS = 5;
    private static final int MOST_PLACES = 6;
    private static final int MOST_FIRINGS = 8;
    private static final int MOST_TOKENS = 99;
    private static final int MOST_WEIGHT = 3;
    private static final int MOST_MARKINGS = 300;
    private static final int MOST_LOGGED = 10;
    private static final int MOST_IN_ROW = 3;
    private static final int MOST_IN_ROUND = 2;

    // No LEAST ROW is at most another one. So many vectors of 0 to 3 for six
    // PLACES can stand beside each other in that way (those with the sum 9),
    // so many of 0 to 2 for eight FIRINGS (the sum 8), and so many sets of six
    // PLACES (those of three): there are never more LEAST ones.
    private static final int MOST_LEAST_ROWS = 580;
    private static final int MOST_LEAST_ROUNDS = 1107;
    private static final int MOST_LEAST_SIPHONS = 20;

    private final Net net;
    private final Graph reach;
    private final Balances leastRows;
    private final Balances leastRounds;
    private final Sets sets;
    private final Log story;

    public MarkingHall() {
        net = new Net();
        reach = new Graph(net);
        leastRows = new Balances(MOST_IN_ROW, MOST_LEAST_ROWS);
        leastRounds = new Balances(MOST_IN_ROUND, MOST_LEAST_ROUNDS);
        sets = new Sets(net);
        story = new Log(net, reach);
    }

    // ---- nets

    public int place(int tokens) throws IllegalArgumentException, IllegalStateException {
        needTokens(tokens);
        if (net.places >= MOST_PLACES) {
            throw new IllegalStateException("there are 6 places");
        }
        return net.addPlace(tokens);
    }

    public int firing() throws IllegalStateException {
        if (net.firings >= MOST_FIRINGS) {
            throw new IllegalStateException("there are 8 firings");
        }
        return net.addFiring();
    }

    public int arc(int firing, int place, int kind, int weight)
            throws IndexOutOfBoundsException, IllegalArgumentException {
        needFiring(firing);
        needPlace(place);
        if (kind < TAKE || kind > EMPTY) {
            throw new IllegalArgumentException("no such kind of arc");
        }
        if (weight < 0 || weight > (kind == EMPTY ? 1 : MOST_WEIGHT)) {
            throw new IllegalArgumentException("no such weight of that kind");
        }
        return net.setWeight(kind, firing, place, weight);
    }

    public int tokens(int place) throws IndexOutOfBoundsException {
        needPlace(place);
        return Net.tokensIn(net.now, place);
    }

    public boolean can(int firing) throws IndexOutOfBoundsException {
        needFiring(firing);
        return net.allows(net.now, firing);
    }

    public int fire(int firing) throws IndexOutOfBoundsException, IllegalStateException {
        needFiring(firing);
        if (!net.allows(net.now, firing)) {
            throw new IllegalStateException("the firing cannot be done");
        }
        return net.moveBy(firing);
    }

    // ---- all markings

    public int graph(int what) throws IllegalArgumentException {
        if (what < 0 || what > 3) {
            throw new IllegalArgumentException("what is 0 to 3");
        }
        reach.refresh();
        if (reach.tooGreat) {
            return NONE;
        }
        switch (what) {
            case 0: return reach.count;
            case 1: return reach.pairs;
            case 2: return reach.ends;
            default: return reach.isHome() ? 1 : 0;
        }
    }

    public int marking(int marking, int place) throws IndexOutOfBoundsException, IllegalArgumentException {
        needPlace(place);
        if (marking < 0) {
            throw new IllegalArgumentException("a marking is 0 or more");
        }
        reach.refresh();
        if (reach.tooGreat || marking >= reach.count) {
            return NONE;
        }
        return reach.tokensAt(marking, place);
    }

    public int most(int place) throws IndexOutOfBoundsException {
        needPlace(place);
        reach.refresh();
        return reach.tooGreat ? NONE : reach.mostAt(place);
    }

    public int level(int firing) throws IndexOutOfBoundsException {
        needFiring(firing);
        reach.refresh();
        return reach.tooGreat ? NONE : reach.levelOf(firing);
    }

    public int way(int place, int tokens) throws IndexOutOfBoundsException, IllegalArgumentException {
        needPlace(place);
        needTokens(tokens);
        reach.refresh();
        return reach.tooGreat ? NONE : reach.depthOf(reach.firstWith(place, tokens));
    }

    public int step(int place, int tokens, int step) throws IndexOutOfBoundsException, IllegalArgumentException {
        needPlace(place);
        needTokens(tokens);
        if (step < 0) {
            throw new IllegalArgumentException("a step is 0 or more");
        }
        reach.refresh();
        return reach.tooGreat ? NONE : reach.firingTowards(reach.firstWith(place, tokens), step);
    }

    // ---- rows, rounds

    public int rows() {
        refreshRows();
        return leastRows.count;
    }

    public int row(int row, int place) throws IndexOutOfBoundsException {
        refreshRows();
        if (row < 0 || row >= leastRows.count) {
            throw new IndexOutOfBoundsException("no such least row");
        }
        needPlace(place);
        return leastRows.numberOf(row, place);
    }

    public int mostByRows(int place) throws IndexOutOfBoundsException {
        needPlace(place);
        refreshRows();
        return boundByRows(place);
    }

    public int rounds() {
        refreshRounds();
        return leastRounds.count;
    }

    public int round(int round, int firing) throws IndexOutOfBoundsException {
        refreshRounds();
        if (round < 0 || round >= leastRounds.count) {
            throw new IndexOutOfBoundsException("no such least round");
        }
        needFiring(firing);
        return leastRounds.numberOf(round, firing);
    }

    public boolean keeps() {
        reach.refresh();
        refreshRows();
        return reach.tooGreat || (rowsKeepTheirSums() && placesKeepTheirBounds());
    }

    // ---- siphons, traps

    public int siphons() {
        sets.refresh();
        return sets.count;
    }

    public int siphon(int siphon) throws IndexOutOfBoundsException {
        sets.refresh();
        if (siphon < 0 || siphon >= sets.count) {
            throw new IndexOutOfBoundsException("no such least siphon");
        }
        return sets.leastSiphon(siphon);
    }

    public int trap(int set) throws IllegalArgumentException {
        if (set < 0 || set >= 1 << net.places) {
            throw new IllegalArgumentException("the set has a bit without a place");
        }
        sets.refresh();
        return sets.greatestTrap(set);
    }

    public boolean isPromising() {
        sets.refresh();
        for (int i = 0; i < sets.count; i++) {
            if (!net.hasTokenIn(sets.greatestTrap(sets.leastSiphon(i)))) {
                return false;
            }
        }
        return true;
    }

    // ---- logs

    public int log(int firing) throws IndexOutOfBoundsException, IllegalStateException {
        needFiring(firing);
        if (story.length >= MOST_LOGGED) {
            throw new IllegalStateException("the log has 10 firings");
        }
        return story.append(firing);
    }

    public int blank() {
        return story.clear();
    }

    public int goes() {
        return story.reachesTo();
    }

    public int cost() {
        reach.refresh();
        return reach.tooGreat ? NONE : story.leastCost();
    }

    // ---- what several calls need

    private void needPlace(int place) throws IndexOutOfBoundsException {
        if (place < 0 || place >= net.places) {
            throw new IndexOutOfBoundsException("no such place");
        }
    }

    private void needFiring(int firing) throws IndexOutOfBoundsException {
        if (firing < 0 || firing >= net.firings) {
            throw new IndexOutOfBoundsException("no such firing");
        }
    }

    private static void needTokens(int tokens) throws IllegalArgumentException {
        if (tokens < 0 || tokens > MOST_TOKENS) {
            throw new IllegalArgumentException("tokens are 0 to 99");
        }
    }

    private void refreshRows() {
        if (leastRows.shape == net.shape) {
            return;
        }
        leastRows.shape = net.shape;
        leastRows.begin(net.places);
        for (int p = 0; p < net.places; p++) {
            if (!net.isEmptied(p)) {
                leastRows.admit(p, net.gainsOfPlace(p));
            }
        }
        leastRows.find();
    }

    private void refreshRounds() {
        if (leastRounds.shape == net.shape) {
            return;
        }
        leastRounds.shape = net.shape;
        leastRounds.begin(net.firings);
        for (int f = 0; f < net.firings; f++) {
            if (net.placesWith(EMPTY, f) == 0) {
                leastRounds.admit(f, net.gainsOfFiring(f));
            }
        }
        leastRounds.find();
    }

    private int sumOfRow(int row, long marking) {
        int sum = 0;
        for (int p = 0; p < net.places; p++) {
            sum += leastRows.numberOf(row, p) * Net.tokensIn(marking, p);
        }
        return sum;
    }

    private int boundByRows(int place) {
        int least = NONE;
        for (int r = 0; r < leastRows.count; r++) {
            int number = leastRows.numberOf(r, place);
            if (number > 0) {
                int bound = sumOfRow(r, net.now) / number;
                least = least == NONE ? bound : Math.min(least, bound);
            }
        }
        return least;
    }

    private boolean rowsKeepTheirSums() {
        for (int r = 0; r < leastRows.count; r++) {
            int sum = sumOfRow(r, net.now);
            for (int m = 0; m < reach.count; m++) {
                if (sumOfRow(r, reach.markingAt(m)) != sum) {
                    return false;
                }
            }
        }
        return true;
    }

    private boolean placesKeepTheirBounds() {
        for (int p = 0; p < net.places; p++) {
            int bound = boundByRows(p);
            if (bound != NONE && reach.mostAt(p) > bound) {
                return false;
            }
        }
        return true;
    }

    /**
     * The places, firings and arcs, and the marking of now. A marking is a
     * long with a byte for each place, so that one subtraction compares all
     * places at once and no array is needed to keep or find one.
     */
    private static final class Net {
        private static final int BITS = 8;
        private static final long BYTE = 0xFFL;
        // No byte of a marking is above 102, so its highest bit is free, and
        // guards it as two markings are compared.
        private static final long GUARDS = 0x808080808080L;
        private static final long FULL = 0x636363636363L;

        private final int[] weights;
        // Of each firing, packed like a marking: what it needs, what it bears
        // at most, all bits of the places that it empties, what it takes from
        // the others, and what it gives.
        private final long[] needed;
        private final long[] borne;
        private final long[] emptied;
        private final long[] taken;
        private final long[] given;
        private int places;
        private int firings;
        private long now;
        private int done;
        // Counts of changes, by which others see that what they know is old:
        // shape of those of places, firings and arcs, state of all.
        private int shape;
        private int state;

        private Net() {
            weights = new int[KINDS * MOST_FIRINGS * MOST_PLACES];
            needed = new long[MOST_FIRINGS];
            borne = new long[MOST_FIRINGS];
            emptied = new long[MOST_FIRINGS];
            taken = new long[MOST_FIRINGS];
            given = new long[MOST_FIRINGS];
        }

        private int addPlace(int tokens) {
            int place = places;
            now |= packed(tokens, place);
            places++;
            shape++;
            state++;
            return place;
        }

        private int addFiring() {
            int firing = firings;
            pack(firing);
            firings++;
            shape++;
            state++;
            return firing;
        }

        private int setWeight(int kind, int firing, int place, int weight) {
            int before = weight(kind, firing, place);
            int at = (kind * MOST_FIRINGS + firing) * MOST_PLACES + place;
            if (at >= 0 && at < weights.length) {
                weights[at] = weight;
            }
            pack(firing);
            shape++;
            state++;
            return before;
        }

        private int weight(int kind, int firing, int place) {
            int at = (kind * MOST_FIRINGS + firing) * MOST_PLACES + place;
            return at >= 0 && at < weights.length ? weights[at] : 0;
        }

        /** Packs the weights of a firing; those of places that are still to come are 0. */
        private void pack(int firing) {
            if (firing < 0 || firing >= MOST_FIRINGS) {
                return;
            }
            needed[firing] = 0;
            borne[firing] = 0;
            emptied[firing] = 0;
            taken[firing] = 0;
            given[firing] = 0;
            for (int p = 0; p < MOST_PLACES; p++) {
                int take = weight(TAKE, firing, p);
                int hold = weight(HOLD, firing, p);
                needed[firing] |= packed(Math.max(take, weight(TEST, firing, p)), p);
                borne[firing] |= packed(hold > 0 ? hold - 1 : MOST_TOKENS, p);
                if (weight(EMPTY, firing, p) > 0) {
                    emptied[firing] |= BYTE << BITS * p;
                } else {
                    taken[firing] |= packed(take, p);
                }
                given[firing] |= packed(weight(GIVE, firing, p), p);
            }
        }

        private static long packed(int tokens, int place) {
            return (long) tokens << BITS * place;
        }

        private static int tokensIn(long marking, int place) {
            return (int) (marking >> BITS * place & BYTE);
        }

        /** Whether each place of the one has at most what it has in the other: then no guard is lost. */
        private static boolean isAtMost(long one, long other) {
            return ((other | GUARDS) - one & GUARDS) == GUARDS;
        }

        private boolean allows(long marking, int firing) {
            return firing >= 0 && firing < MOST_FIRINGS
                && isAtMost(needed[firing], marking)
                && isAtMost(marking, borne[firing])
                && isAtMost(behind(marking, firing), FULL);
        }

        /** The marking to which a firing leads from one that has what it needs. */
        private long behind(long marking, int firing) {
            if (firing < 0 || firing >= MOST_FIRINGS) {
                return marking;
            }
            return (marking & ~emptied[firing]) - taken[firing] + given[firing];
        }

        private int moveBy(int firing) {
            now = behind(now, firing);
            done++;
            state++;
            return done;
        }

        private boolean hasTokenIn(int set) {
            for (int p = 0; p < places; p++) {
                if ((set >> p & 1) == 1 && tokensIn(now, p) > 0) {
                    return true;
                }
            }
            return false;
        }

        /** The set of the places to which a firing has an arc of a kind. */
        private int placesWith(int kind, int firing) {
            int set = 0;
            for (int p = 0; p < places; p++) {
                if (weight(kind, firing, p) > 0) {
                    set |= 1 << p;
                }
            }
            return set;
        }

        private boolean isEmptied(int place) {
            for (int f = 0; f < firings; f++) {
                if (weight(EMPTY, f, place) > 0) {
                    return true;
                }
            }
            return false;
        }

        private long gain(int firing, int place) {
            return weight(GIVE, firing, place) - weight(TAKE, firing, place);
        }

        /** What each firing gives a place, less what it takes: eight bits for each. */
        private long gainsOfPlace(int place) {
            long gains = 0;
            for (int f = 0; f < firings; f++) {
                gains += gain(f, place) << Balances.GAIN_BITS * f;
            }
            return gains;
        }

        /** The same for a firing, by places. */
        private long gainsOfFiring(int firing) {
            long gains = 0;
            for (int p = 0; p < places; p++) {
                gains += gain(firing, p) << Balances.GAIN_BITS * p;
            }
            return gains;
        }
    }

    /** THE GRAPH: the markings in the order in which they are found, and where firings lead. */
    private static final class Graph {
        private static final int EDGES = MOST_MARKINGS * MOST_FIRINGS;
        private static final int SLOT_BITS = 10;
        private static final int SLOTS = 1 << SLOT_BITS;
        private static final long SPREAD = 0x9E3779B97F4A7C15L;

        private final Net net;
        private final long[] found;
        private final int[] slots;
        // Of each marking: how many firings lead to it, and the edge by which
        // it was found. An edge is marking * MOST_FIRINGS + firing.
        private final int[] depths;
        private final int[] foundBy;
        // Of each edge the marking to which it leads; of each marking the last
        // edge that leads to it, and of each edge the one before it.
        private final int[] targets;
        private final int[] lastInto;
        private final int[] nextInto;
        private final boolean[] marked;
        private final int[] queue;
        private int queued;
        private int state;
        private int count;
        private int pairs;
        private int ends;
        private boolean tooGreat;

        private Graph(Net net) {
            this.net = net;
            found = new long[MOST_MARKINGS];
            slots = new int[SLOTS];
            depths = new int[MOST_MARKINGS];
            foundBy = new int[MOST_MARKINGS];
            targets = new int[EDGES];
            lastInto = new int[MOST_MARKINGS];
            nextInto = new int[EDGES];
            marked = new boolean[MOST_MARKINGS];
            queue = new int[MOST_MARKINGS];
            state = NONE;
        }

        private void refresh() {
            if (state == net.state) {
                return;
            }
            state = net.state;
            Arrays.fill(slots, NONE);
            count = 0;
            pairs = 0;
            ends = 0;
            tooGreat = false;
            indexFor(net.now, NONE, 0);
            for (int m = 0; m < MOST_MARKINGS && m < count && !tooGreat; m++) {
                expand(m);
            }
        }

        private void expand(int from) {
            int doable = 0;
            for (int f = 0; f < MOST_FIRINGS && f < net.firings && !tooGreat; f++) {
                int edge = from * MOST_FIRINGS + f;
                targets[edge] = NONE;
                if (net.allows(found[from], f)) {
                    doable++;
                    follow(edge, net.behind(found[from], f), depths[from] + 1);
                }
            }
            pairs += doable;
            if (doable == 0) {
                ends++;
            }
        }

        private void follow(int edge, long marking, int depth) {
            int to = indexFor(marking, edge, depth);
            if (to < 0 || to >= MOST_MARKINGS) {
                tooGreat = true;
                return;
            }
            targets[edge] = to;
            nextInto[edge] = lastInto[to];
            lastInto[to] = edge;
        }

        /** Finds a marking's index, a new one for a new marking; NONE if that would be one too many. */
        private int indexFor(long marking, int edge, int depth) {
            int slot = slotOf(marking);
            if (slots[slot] != NONE) {
                return slots[slot];
            }
            if (count >= MOST_MARKINGS) {
                return NONE;
            }
            int index = count;
            slots[slot] = index;
            found[index] = marking;
            depths[index] = depth;
            foundBy[index] = edge;
            lastInto[index] = NONE;
            count++;
            return index;
        }

        /** The slot that holds a marking's index, or the free one for it: there are always free ones. */
        private int slotOf(long marking) {
            int slot = (int) (marking * SPREAD >>> 64 - SLOT_BITS);
            for (int tries = 0; tries < SLOTS; tries++) {
                int index = slots[slot];
                if (index < 0 || index >= count || found[index] == marking) {
                    break;
                }
                slot = slot + 1 & SLOTS - 1;
            }
            return slot;
        }

        private long markingAt(int index) {
            return index >= 0 && index < count ? found[index] : 0;
        }

        private int tokensAt(int index, int place) {
            return Net.tokensIn(markingAt(index), place);
        }

        /** The marking to which a firing leads from one, NONE if it cannot be done there. */
        private int target(int index, int firing) {
            int edge = index * MOST_FIRINGS + firing;
            return edge >= 0 && edge < EDGES ? targets[edge] : NONE;
        }

        private int mostAt(int place) {
            int most = 0;
            for (int m = 0; m < count; m++) {
                most = Math.max(most, tokensAt(m, place));
            }
            return most;
        }

        private boolean isHome() {
            unmarkAll();
            mark(0);
            return allComeToMarked();
        }

        private int levelOf(int firing) {
            unmarkAll();
            for (int m = 0; m < count; m++) {
                if (target(m, firing) != NONE) {
                    mark(m);
                }
            }
            if (queued == 0) {
                return 0;
            }
            return allComeToMarked() ? 2 : 1;
        }

        private void unmarkAll() {
            queued = 0;
            for (int m = 0; m < MOST_MARKINGS; m++) {
                marked[m] = false;
            }
        }

        private void mark(int index) {
            if (index >= 0 && index < MOST_MARKINGS && queued < MOST_MARKINGS && !marked[index]) {
                marked[index] = true;
                queue[queued] = index;
                queued++;
            }
        }

        /** Goes the edges backwards from the marked ones, and tells whether all were come to. */
        private boolean allComeToMarked() {
            for (int i = 0; i < MOST_MARKINGS && i < queued; i++) {
                int edge = lastInto[queue[i]];
                for (int k = 0; k < EDGES && edge >= 0 && edge < EDGES; k++) {
                    mark(edge / MOST_FIRINGS);
                    edge = nextInto[edge];
                }
            }
            return queued == count;
        }

        /**
         * The first marking in which the wish holds. The search in breadth by
         * rising firings finds each marking by its fewest and then lowest
         * firings, so the way to the first one is the WAY.
         */
        private int firstWith(int place, int tokens) {
            for (int m = 0; m < count; m++) {
                if (tokensAt(m, place) >= tokens) {
                    return m;
                }
            }
            return NONE;
        }

        private int depthOf(int index) {
            return index >= 0 && index < count ? depths[index] : NONE;
        }

        private int edgeTo(int index) {
            return index >= 0 && index < count ? foundBy[index] : NONE;
        }

        /** A firing of the way to a marking, found by going it backwards. */
        private int firingTowards(int index, int step) {
            int depth = depthOf(index);
            if (step >= depth) {
                return NONE;
            }
            int edge = edgeTo(index);
            for (int back = depth - 1; back > step; back--) {
                edge = edgeTo(edge / MOST_FIRINGS);
            }
            return edge % MOST_FIRINGS;
        }
    }

    /**
     * The LEAST vectors of small numbers, not all 0, by which columns of gains
     * add up to nothing: of places the LEAST ROWS, of firings the LEAST ROUNDS.
     */
    private static final class Balances {
        // A vector is an int with three bits for each number. The highest of
        // the three is free, and guards each number as two are compared.
        private static final int BITS = 3;
        private static final int MASK = 7;
        private static final int GUARDS = 0x924924;
        private static final int MOST_VECTORS = 6561;
        // A sum of gains is between -54 and 54. So the sums, eight bits apart,
        // are all 0 if and only if the long that holds them is.
        private static final int GAIN_BITS = 8;

        private final int highest;
        private final int[] least;
        private final long[] columns;
        private final boolean[] admitted;
        private int width;
        private int vector;
        private long sums;
        private int count;
        private int shape;

        private Balances(int highest, int room) {
            this.highest = highest;
            least = new int[room];
            columns = new long[MOST_FIRINGS];
            admitted = new boolean[MOST_FIRINGS];
            shape = NONE;
        }

        private void begin(int newWidth) {
            width = Math.min(newWidth, MOST_FIRINGS);
            for (int i = 0; i < MOST_FIRINGS; i++) {
                admitted[i] = false;
            }
        }

        private void admit(int index, long column) {
            if (index >= 0 && index < width) {
                admitted[index] = true;
                columns[index] = column;
            }
        }

        /**
         * Goes through all vectors in rising order. What is at most a vector
         * comes before it, so a vector is LEAST if none kept so far is that.
         */
        private void find() {
            count = 0;
            vector = 0;
            sums = 0;
            for (int i = 1; i < MOST_VECTORS && advance(); i++) {
                if (sums == 0 && count < least.length && !coversKept()) {
                    least[count] = vector;
                    count++;
                }
            }
        }

        /** Counts the vector up by one, its last number first; false behind the highest one. */
        private boolean advance() {
            for (int i = width - 1; i >= 0; i--) {
                if (admitted[i]) {
                    int number = vector >> BITS * i & MASK;
                    if (number < highest) {
                        vector += 1 << BITS * i;
                        sums += columns[i];
                        return true;
                    }
                    vector -= number << BITS * i;
                    sums -= number * columns[i];
                }
            }
            return false;
        }

        private boolean coversKept() {
            int guarded = vector | GUARDS;
            for (int i = 0; i < count; i++) {
                // A guard is lost where the number taken off is the greater.
                if ((guarded - least[i] & GUARDS) == GUARDS) {
                    return true;
                }
            }
            return false;
        }

        private int numberOf(int index, int column) {
            return index >= 0 && index < count ? least[index] >> BITS * column & MASK : 0;
        }
    }

    /** The LEAST SIPHONS and the GREATEST TRAPS. A set of places is an int, the place p its bit p. */
    private static final class Sets {
        private final Net net;
        private final int[] takes;
        private final int[] loses;
        private final int[] gives;
        private final int[] least;
        private int firings;
        private int count;
        private int shape;

        private Sets(Net net) {
            this.net = net;
            takes = new int[MOST_FIRINGS];
            loses = new int[MOST_FIRINGS];
            gives = new int[MOST_FIRINGS];
            least = new int[MOST_LEAST_SIPHONS];
            shape = NONE;
        }

        private void refresh() {
            if (shape == net.shape) {
                return;
            }
            shape = net.shape;
            firings = Math.min(net.firings, MOST_FIRINGS);
            for (int f = 0; f < firings; f++) {
                takes[f] = net.placesWith(TAKE, f);
                loses[f] = takes[f] | net.placesWith(EMPTY, f);
                gives[f] = net.placesWith(GIVE, f);
            }
            findLeastSiphons();
        }

        /** A part of a set is a lower number, so it has been looked at before the set. */
        private void findLeastSiphons() {
            count = 0;
            for (int set = 1; set < 1 << net.places; set++) {
                if (count < least.length && isSiphon(set) && !holdsKept(set)) {
                    least[count] = set;
                    count++;
                }
            }
        }

        private boolean isSiphon(int set) {
            for (int f = 0; f < firings; f++) {
                if ((gives[f] & set) != 0 && (takes[f] & set) == 0) {
                    return false;
                }
            }
            return true;
        }

        private boolean holdsKept(int set) {
            for (int i = 0; i < count; i++) {
                if ((least[i] & set) == least[i]) {
                    return true;
                }
            }
            return false;
        }

        private int leastSiphon(int index) {
            return index >= 0 && index < count ? least[index] : 0;
        }

        /**
         * A firing that loses and gives nothing back bars the places that it
         * empties or takes from. A pass that changes the set takes out a place
         * at least, so that as many passes as places are enough.
         */
        private int greatestTrap(int set) {
            int left = set;
            for (int pass = 0; pass < net.places; pass++) {
                for (int f = 0; f < firings; f++) {
                    if ((gives[f] & left) == 0) {
                        left &= ~loses[f];
                    }
                }
            }
            return left;
        }
    }

    /** THE LOG, how far it goes and what it costs to put it right. */
    private static final class Log {
        // Above all costs: to leave all out never costs more than MOST_LOGGED.
        private static final int TOO_DEAR = 1000;

        private final Net net;
        private final Graph reach;
        private final int[] entries;
        // The least costs by which the markings are come to, here in THE LOG
        // and one entry further on.
        private final int[] here;
        private final int[] further;
        private int markings;
        private int length;

        private Log(Net net, Graph reach) {
            this.net = net;
            this.reach = reach;
            entries = new int[MOST_LOGGED];
            here = new int[MOST_MARKINGS];
            further = new int[MOST_MARKINGS];
        }

        private int append(int firing) {
            if (length < MOST_LOGGED) {
                entries[length] = firing;
                length++;
            }
            return length;
        }

        private int clear() {
            int before = length;
            length = 0;
            return before;
        }

        private int reachesTo() {
            long marking = net.now;
            for (int i = 0; i < length; i++) {
                if (!net.allows(marking, entries[i])) {
                    return i;
                }
                marking = net.behind(marking, entries[i]);
            }
            return length;
        }

        private int leastCost() {
            markings = Math.min(reach.count, MOST_MARKINGS);
            Arrays.fill(here, TOO_DEAR);
            here[0] = 0;
            for (int i = 0; i < length; i++) {
                doBesides();
                goPast(entries[i]);
            }
            int least = TOO_DEAR;
            for (int m = 0; m < markings; m++) {
                least = Math.min(least, here[m]);
            }
            return least;
        }

        /** Firings besides, each for 1: by rising costs, so that each marking's cost stands before it is used. */
        private void doBesides() {
            for (int cost = 0; cost < length; cost++) {
                for (int m = 0; m < markings; m++) {
                    if (here[m] == cost) {
                        offerBesides(m, cost + 1);
                    }
                }
            }
        }

        private void offerBesides(int from, int cost) {
            for (int f = 0; f < net.firings; f++) {
                int to = reach.target(from, f);
                if (to >= 0 && to < MOST_MARKINGS) {
                    here[to] = Math.min(here[to], cost);
                }
            }
        }

        /** The next one is left out, for 1, or done, for nothing. */
        private void goPast(int firing) {
            for (int m = 0; m < markings; m++) {
                further[m] = here[m] + 1;
            }
            for (int m = 0; m < markings; m++) {
                int to = reach.target(m, firing);
                if (to >= 0 && to < MOST_MARKINGS) {
                    further[to] = Math.min(further[to], here[m]);
                }
            }
            System.arraycopy(further, 0, here, 0, MOST_MARKINGS);
        }
    }
}
