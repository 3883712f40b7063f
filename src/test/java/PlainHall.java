import java.util.ArrayList;
import java.util.Arrays;
import java.util.HashMap;
import java.util.List;
import java.util.Map;

/**
 * The document once more, word by word and without any thrift: what a random
 * run of calls is compared with. It shares no code and few ideas with the
 * class: it looks at all vectors, sets and pairs instead of the clever ones.
 */
final class PlainHall {
    private static final int NONE = -1;
    private static final int TAKE = 0;
    private static final int GIVE = 1;
    private static final int TEST = 2;
    private static final int HOLD = 3;
    private static final int EMPTY = 4;
    private static final int FAR = 1_000_000;

    private final List<Integer> now = new ArrayList<>();
    private final int[][][] weights = new int[8][6][5];
    private final List<Integer> log = new ArrayList<>();
    private int firings;
    private int fired;

    // THE GRAPH of now, null if it is still to be found.
    private List<List<Integer>> markings;
    private int[][] leads;
    private boolean[][] comesTo;

    int place(int tokens) {
        if (tokens < 0 || tokens > 99) throw new IllegalArgumentException();
        if (now.size() == 6) throw new IllegalStateException();
        now.add(tokens);
        markings = null;
        return now.size() - 1;
    }

    int firing() {
        if (firings == 8) throw new IllegalStateException();
        markings = null;
        return firings++;
    }

    int arc(int firing, int place, int kind, int weight) {
        checkFiring(firing);
        checkPlace(place);
        if (kind < 0 || kind > 4) throw new IllegalArgumentException();
        if (weight < 0 || weight > 3 || kind == EMPTY && weight > 1) throw new IllegalArgumentException();
        int was = weights[firing][place][kind];
        weights[firing][place][kind] = weight;
        markings = null;
        return was;
    }

    int tokens(int place) {
        checkPlace(place);
        return now.get(place);
    }

    boolean can(int firing) {
        checkFiring(firing);
        return behind(now, firing) != null;
    }

    int fire(int firing) {
        checkFiring(firing);
        List<Integer> behind = behind(now, firing);
        if (behind == null) throw new IllegalStateException();
        for (int p = 0; p < now.size(); p++) now.set(p, behind.get(p));
        markings = null;
        return ++fired;
    }

    int graph(int what) {
        if (what < 0 || what > 3) throw new IllegalArgumentException();
        if (isTooGreat()) return NONE;
        int pairs = 0;
        int ends = 0;
        boolean home = true;
        for (int m = 0; m < markings.size(); m++) {
            int doable = 0;
            for (int f = 0; f < firings; f++) if (leads[m][f] != NONE) doable++;
            pairs += doable;
            if (doable == 0) ends++;
            home &= comesTo[m][0];
        }
        return what == 0 ? markings.size() : what == 1 ? pairs : what == 2 ? ends : home ? 1 : 0;
    }

    int marking(int marking, int place) {
        checkPlace(place);
        if (marking < 0) throw new IllegalArgumentException();
        return isTooGreat() || marking >= markings.size() ? NONE : markings.get(marking).get(place);
    }

    int most(int place) {
        checkPlace(place);
        if (isTooGreat()) return NONE;
        int most = 0;
        for (List<Integer> m : markings) most = Math.max(most, m.get(place));
        return most;
    }

    int level(int firing) {
        checkFiring(firing);
        if (isTooGreat()) return NONE;
        boolean ever = false;
        boolean always = true;
        for (int m = 0; m < markings.size(); m++) {
            boolean later = false;
            for (int n = 0; n < markings.size(); n++) later |= comesTo[m][n] && leads[n][firing] != NONE;
            ever |= leads[m][firing] != NONE;
            always &= later;
        }
        return !ever ? 0 : always ? 2 : 1;
    }

    int way(int place, int tokens) {
        checkPlace(place);
        if (tokens < 0 || tokens > 99) throw new IllegalArgumentException();
        List<Integer> way = theWay(place, tokens);
        return way == null ? NONE : way.size();
    }

    int step(int place, int tokens, int step) {
        checkPlace(place);
        if (tokens < 0 || tokens > 99) throw new IllegalArgumentException();
        if (step < 0) throw new IllegalArgumentException();
        List<Integer> way = theWay(place, tokens);
        return way == null || step >= way.size() ? NONE : way.get(step);
    }

    int rows() {
        return leastRows().size();
    }

    int row(int row, int place) {
        List<int[]> rows = leastRows();
        if (row < 0 || row >= rows.size()) throw new IndexOutOfBoundsException();
        checkPlace(place);
        return rows.get(row)[place];
    }

    int mostByRows(int place) {
        checkPlace(place);
        double least = FAR;
        for (int[] row : leastRows()) {
            if (row[place] > 0) {
                double sum = 0;
                for (int p = 0; p < now.size(); p++) sum += row[p] * now.get(p);
                least = Math.min(least, sum / row[place]);
            }
        }
        return least == FAR ? NONE : (int) Math.floor(least + 1e-9);
    }

    int rounds() {
        return leastRounds().size();
    }

    int round(int round, int firing) {
        List<int[]> rounds = leastRounds();
        if (round < 0 || round >= rounds.size()) throw new IndexOutOfBoundsException();
        checkFiring(firing);
        return rounds.get(round)[firing];
    }

    boolean keeps() {
        if (isTooGreat()) return true;
        for (int[] row : leastRows()) {
            int[] sums = new int[markings.size()];
            for (int m = 0; m < sums.length; m++) {
                for (int p = 0; p < now.size(); p++) sums[m] += row[p] * markings.get(m).get(p);
                if (sums[m] != sums[0]) return false;
            }
        }
        for (int p = 0; p < now.size(); p++) {
            int bound = mostByRows(p);
            if (bound != NONE && most(p) > bound) return false;
        }
        return true;
    }

    int siphons() {
        return leastSiphons().size();
    }

    int siphon(int siphon) {
        List<Integer> least = leastSiphons();
        if (siphon < 0 || siphon >= least.size()) throw new IndexOutOfBoundsException();
        return least.get(siphon);
    }

    int trap(int set) {
        for (int bit = 0; bit < 32; bit++) {
            if ((set >>> bit & 1) == 1 && bit >= now.size()) throw new IllegalArgumentException();
        }
        return greatestTrap(set);
    }

    boolean isPromising() {
        for (int siphon : leastSiphons()) {
            int trap = greatestTrap(siphon);
            int tokens = 0;
            for (int p = 0; p < now.size(); p++) if ((trap & 1 << p) != 0) tokens += now.get(p);
            if (tokens == 0) return false;
        }
        return true;
    }

    int log(int firing) {
        checkFiring(firing);
        if (log.size() == 10) throw new IllegalStateException();
        log.add(firing);
        return log.size();
    }

    int blank() {
        int had = log.size();
        log.clear();
        return had;
    }

    int goes() {
        List<Integer> at = now;
        int done = 0;
        for (int f : log) {
            at = behind(at, f);
            if (at == null) break;
            done++;
        }
        return done;
    }

    /** The least costs of all twos of an entry and a marking, made less until none can be. */
    int cost() {
        if (isTooGreat()) return NONE;
        int[][] costs = new int[log.size() + 1][markings.size()];
        for (int[] row : costs) Arrays.fill(row, FAR);
        costs[0][0] = 0;
        boolean less = true;
        while (less) {
            less = false;
            for (int i = 0; i <= log.size(); i++) {
                for (int m = 0; m < markings.size(); m++) {
                    int cost = costs[i][m];
                    if (cost == FAR) continue;
                    for (int f = 0; f < firings; f++) {
                        if (leads[m][f] == NONE) continue;
                        less |= lower(costs, i, leads[m][f], cost + 1);
                        if (i < log.size() && log.get(i) == f) less |= lower(costs, i + 1, leads[m][f], cost);
                    }
                    if (i < log.size()) less |= lower(costs, i + 1, m, cost + 1);
                }
            }
        }
        return Arrays.stream(costs[log.size()]).min().getAsInt();
    }

    private static boolean lower(int[][] costs, int i, int m, int cost) {
        if (cost >= costs[i][m]) return false;
        costs[i][m] = cost;
        return true;
    }

    private void checkPlace(int place) {
        if (place < 0 || place >= now.size()) throw new IndexOutOfBoundsException();
    }

    private void checkFiring(int firing) {
        if (firing < 0 || firing >= firings) throw new IndexOutOfBoundsException();
    }

    /** The marking behind a firing; null if it cannot be done. */
    private List<Integer> behind(List<Integer> at, int firing) {
        List<Integer> behind = new ArrayList<>();
        for (int p = 0; p < now.size(); p++) {
            int[] arc = weights[firing][p];
            int has = at.get(p);
            if (has < arc[TAKE] || has < arc[TEST]) return null;
            if (arc[HOLD] > 0 && has >= arc[HOLD]) return null;
            int loses = arc[EMPTY] == 1 ? has : arc[TAKE];
            if (has - loses + arc[GIVE] > 99) return null;
            behind.add(has - loses + arc[GIVE]);
        }
        return behind;
    }

    private boolean isTooGreat() {
        if (markings == null) findGraph();
        return markings.size() > 300;
    }

    private void findGraph() {
        markings = new ArrayList<>();
        Map<List<Integer>, Integer> numbers = new HashMap<>();
        List<int[]> found = new ArrayList<>();
        markings.add(new ArrayList<>(now));
        numbers.put(markings.get(0), 0);
        for (int m = 0; m < markings.size() && markings.size() <= 300; m++) {
            int[] lead = new int[firings];
            for (int f = 0; f < firings; f++) {
                List<Integer> behind = behind(markings.get(m), f);
                if (behind != null && !numbers.containsKey(behind)) {
                    numbers.put(behind, markings.size());
                    markings.add(behind);
                }
                lead[f] = behind == null ? NONE : numbers.get(behind);
            }
            found.add(lead);
        }
        leads = found.toArray(new int[0][]);
        if (markings.size() <= 300) findWhatComesTo();
    }

    private void findWhatComesTo() {
        comesTo = new boolean[markings.size()][markings.size()];
        for (int m = 0; m < markings.size(); m++) visit(m, comesTo[m]);
    }

    private void visit(int from, boolean[] seen) {
        List<Integer> open = new ArrayList<>();
        seen[from] = true;
        open.add(from);
        while (!open.isEmpty()) {
            for (int to : leads[open.remove(open.size() - 1)]) {
                if (to != NONE && !seen[to]) {
                    seen[to] = true;
                    open.add(to);
                }
            }
        }
    }

    /** From how far each marking is from the wish: always the lowest firing that comes nearer. */
    private List<Integer> theWay(int place, int tokens) {
        if (isTooGreat()) return null;
        int[] far = new int[markings.size()];
        for (int m = 0; m < far.length; m++) far[m] = markings.get(m).get(place) >= tokens ? 0 : FAR;
        for (boolean nearer = true; nearer; ) {
            nearer = false;
            for (int m = 0; m < far.length; m++) {
                for (int to : leads[m]) {
                    if (to != NONE && far[to] + 1 < far[m]) {
                        far[m] = far[to] + 1;
                        nearer = true;
                    }
                }
            }
        }
        if (far[0] == FAR) return null;
        List<Integer> way = new ArrayList<>();
        for (int at = 0; far[at] > 0; ) {
            int f = 0;
            while (leads[at][f] == NONE || far[leads[at][f]] != far[at] - 1) f++;
            way.add(f);
            at = leads[at][f];
        }
        return way;
    }

    private int gain(int firing, int place) {
        return weights[firing][place][GIVE] - weights[firing][place][TAKE];
    }

    private List<int[]> leastRows() {
        List<int[]> rows = new ArrayList<>();
        vectors(new int[now.size()], 0, 3, rows);
        rows.removeIf(row -> !isRow(row));
        return leastOf(rows);
    }

    private boolean isRow(int[] row) {
        for (int f = 0; f < firings; f++) {
            int sum = 0;
            for (int p = 0; p < row.length; p++) {
                sum += row[p] * gain(f, p);
                if (row[p] > 0 && weights[f][p][EMPTY] == 1) return false;
            }
            if (sum != 0) return false;
        }
        return true;
    }

    private List<int[]> leastRounds() {
        List<int[]> rounds = new ArrayList<>();
        vectors(new int[firings], 0, 2, rounds);
        rounds.removeIf(round -> !isRound(round));
        return leastOf(rounds);
    }

    private boolean isRound(int[] round) {
        for (int p = 0; p < now.size(); p++) {
            int sum = 0;
            for (int f = 0; f < round.length; f++) {
                sum += round[f] * gain(f, p);
                if (round[f] > 0 && weights[f][p][EMPTY] == 1) return false;
            }
            if (sum != 0) return false;
        }
        return true;
    }

    /** All vectors but that of 0 alone, by their numbers. */
    private static void vectors(int[] vector, int at, int highest, List<int[]> all) {
        if (at == vector.length) {
            if (Arrays.stream(vector).sum() > 0) all.add(vector.clone());
            return;
        }
        for (int number = 0; number <= highest; number++) {
            vector[at] = number;
            vectors(vector, at + 1, highest, all);
        }
        vector[at] = 0;
    }

    private static List<int[]> leastOf(List<int[]> vectors) {
        List<int[]> least = new ArrayList<>();
        for (int[] one : vectors) {
            boolean isLeast = true;
            for (int[] other : vectors) {
                if (other != one && isAtMost(other, one)) {
                    isLeast = false;
                    break;
                }
            }
            if (isLeast) least.add(one);
        }
        return least;
    }

    private static boolean isAtMost(int[] one, int[] other) {
        for (int i = 0; i < one.length; i++) if (one[i] > other[i]) return false;
        return true;
    }

    private boolean arcInto(int firing, int set, int kind) {
        for (int p = 0; p < now.size(); p++) {
            if ((set & 1 << p) != 0 && weights[firing][p][kind] > 0) return true;
        }
        return false;
    }

    private boolean isSiphon(int set) {
        for (int f = 0; f < firings; f++) {
            if (arcInto(f, set, GIVE) && !arcInto(f, set, TAKE)) return false;
        }
        return set != 0;
    }

    private boolean isTrap(int set) {
        for (int f = 0; f < firings; f++) {
            if ((arcInto(f, set, TAKE) || arcInto(f, set, EMPTY)) && !arcInto(f, set, GIVE)) return false;
        }
        return true;
    }

    private List<Integer> leastSiphons() {
        List<Integer> least = new ArrayList<>();
        for (int set = 1; set < 1 << now.size(); set++) {
            boolean isLeast = isSiphon(set);
            for (int part = 1; part < set; part++) {
                if ((part & ~set) == 0 && isSiphon(part)) isLeast = false;
            }
            if (isLeast) least.add(set);
        }
        return least;
    }

    /** Of all traps in a set the one of which all are parts. */
    private int greatestTrap(int set) {
        int all = 0;
        for (int part = 0; part < 64; part++) if ((part & ~set) == 0 && isTrap(part)) all |= part;
        if (!isTrap(all)) throw new AssertionError("the traps in a set are no trap together");
        return all;
    }
}
