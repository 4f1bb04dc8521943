/** Finds the cheapest forests of a small graph, and how firmly their edges stand. */
public final class TreeTolerance {
    public static final int NONE = -1;
    public static final int FULL = -2;

    private static final int VERTICES = 6;
    private static final int MOST_EDGES = 10;
    private static final int ALL_SETS = 1 << MOST_EDGES;
    private static final int MOST_WEIGHT = 50;

    // What these three hold for a number that no edge has is left over and never read.
    private final int[] endA = new int[MOST_EDGES];
    private final int[] endB = new int[MOST_EDGES];
    private final int[] cost = new int[MOST_EDGES];

    /** The numbers that edges have: bit e for edge e, as in every set of edges here. */
    private int present;

    /** Scratch: vertices with equal entries are linked. Each question lays it out anew. */
    private final int[] part = new int[VERTICES];

    public TreeTolerance() {
        present = 0;
    }

    public int add(int a, int b, int weight) {
        if (a == b || !isVertex(a) || !isVertex(b) || !isWeight(weight)) {
            return NONE;
        }
        for (int e = 0; e < MOST_EDGES; e++) {
            if (!contains(present, e)) {
                endA[e] = a;
                endB[e] = b;
                cost[e] = weight;
                present |= 1 << e;
                return e;
            }
        }
        return FULL;
    }

    public boolean remove(int e) {
        if (!contains(present, e)) {
            return false;
        }
        present &= ~(1 << e);
        return true;
    }

    public boolean reweigh(int e, int weight) {
        if (!contains(present, e) || !isWeight(weight)) {
            return false;
        }
        cost[e] = weight;
        return true;
    }

    public int edges() {
        return present;
    }

    public int weight(int e) {
        return contains(present, e) ? cost[e] : NONE;
    }

    public int chosen() {
        return chosenAmong(present);
    }

    public int total() {
        int best = chosenAmong(present);
        return weightOf(best);
    }

    public int limit(int e) {
        if (!contains(present, e)) {
            return NONE;
        }
        // Above MOST_WEIGHT every other edge goes before e, so there e stands only
        // if no forest can span without it: one step more answers 51.
        for (int weight = MOST_WEIGHT + 1; weight >= 0; weight--) {
            if (stands(e, weight, present)) {
                return weight;
            }
        }
        return NONE;
    }

    public int loss(int e) {
        if (!contains(present, e)) {
            return -1;
        }
        int best = chosenAmong(present);
        int without = chosenAmong(present & ~(1 << e));
        if (sizeOf(without) < sizeOf(best)) {
            return -1;
        }
        return weightOf(without) - weightOf(best);
    }

    public int second() {
        int best = chosenAmong(present);
        int size = sizeOf(best);
        int least = NONE;
        for (int set = 0; set < ALL_SETS; set++) {
            if (set != best && isSpanningForest(set, size)) {
                int weight = weightOf(set);
                if (least == NONE || weight < least) {
                    least = weight;
                }
            }
        }
        return least;
    }

    public int forests() {
        int best = chosenAmong(present);
        int size = sizeOf(best);
        int least = weightOf(best);
        int count = 0;
        for (int set = 0; set < ALL_SETS; set++) {
            if (isCheapestForest(set, size, least)) {
                count++;
            }
        }
        return count;
    }

    public int allForests() {
        int best = chosenAmong(present);
        int size = sizeOf(best);
        int count = 0;
        for (int set = 0; set < ALL_SETS; set++) {
            if (isSpanningForest(set, size)) {
                count++;
            }
        }
        return count;
    }

    public int narrowest(int a, int b) {
        if (!isVertex(a) || !isVertex(b)) {
            return NONE;
        }
        for (int weight = 0; weight <= MOST_WEIGHT; weight++) {
            linkUpTo(weight);
            if (part[a] == part[b]) {
                return weight;
            }
        }
        return NONE;
    }

    public int possible() {
        int best = chosenAmong(present);
        int size = sizeOf(best);
        int least = weightOf(best);
        int some = 0;
        for (int set = 0; set < ALL_SETS; set++) {
            if (isCheapestForest(set, size, least)) {
                some |= set;
            }
        }
        return some;
    }

    public int certain() {
        int best = chosenAmong(present);
        int size = sizeOf(best);
        int least = weightOf(best);
        int every = best;
        for (int set = 0; set < ALL_SETS; set++) {
            if (isCheapestForest(set, size, least)) {
                every &= set;
            }
        }
        return every;
    }

    private static boolean isVertex(int v) {
        return v >= 0 && v < VERTICES;
    }

    private static boolean isWeight(int weight) {
        return weight >= 0 && weight <= MOST_WEIGHT;
    }

    /** False for every e that can't be an edge's number, so callers need not look at e first. */
    private static boolean contains(int set, int e) {
        return e >= 0 && e < MOST_EDGES && (set & (1 << e)) != 0;
    }

    private static int sizeOf(int set) {
        int size = 0;
        for (int e = 0; e < MOST_EDGES; e++) {
            if (contains(set, e)) {
                size++;
            }
        }
        return size;
    }

    private int weightOf(int set) {
        int sum = 0;
        for (int e = 0; e < MOST_EDGES; e++) {
            if (contains(set, e)) {
                sum += cost[e];
            }
        }
        return sum;
    }

    /** The chosen forest of the graph that has only the edges of the set among. */
    private int chosenAmong(int among) {
        int forest = 0;
        for (int e = 0; e < MOST_EDGES; e++) {
            if (contains(among, e) && stands(e, cost[e], among)) {
                forest |= 1 << e;
            }
        }
        return forest;
    }

    /**
     * Whether edge e, if it had this weight, would be in the chosen forest of among.
     * Taking edges by weight, and by number where weights are equal, gives the chosen
     * forest; so e is left out just when the edges before it link its ends already.
     */
    private boolean stands(int e, int weight, int among) {
        separate();
        for (int f = 0; f < MOST_EDGES; f++) {
            if (contains(among, f) && goesBefore(f, e, weight)) {
                link(f);
            }
        }
        return part[endA[e]] != part[endB[e]];
    }

    /** Whether edge f is taken before edge e when e has this weight; never so for e itself. */
    private boolean goesBefore(int f, int e, int weight) {
        return f != e && (cost[f] < weight || (cost[f] == weight && f < e));
    }

    private boolean isCheapestForest(int set, int size, int least) {
        return isSpanningForest(set, size) && weightOf(set) == least;
    }

    /**
     * Whether the set is a spanning forest, given the size of one: all of them have
     * equally many edges, so no further edge need be tried.
     */
    private boolean isSpanningForest(int set, int size) {
        if ((set & ~present) != 0 || sizeOf(set) != size) {
            return false;
        }
        separate();
        for (int e = 0; e < MOST_EDGES; e++) {
            if (contains(set, e) && !link(e)) {
                return false;
            }
        }
        return true;
    }

    private void linkUpTo(int weight) {
        separate();
        for (int e = 0; e < MOST_EDGES; e++) {
            if (contains(present, e) && cost[e] <= weight) {
                link(e);
            }
        }
    }

    private void separate() {
        for (int v = 0; v < VERTICES; v++) {
            part[v] = v;
        }
    }

    /** Links the ends of edge e; false when they were linked already, so that e closes a ring. */
    private boolean link(int e) {
        int kept = part[endA[e]];
        int given = part[endB[e]];
        if (kept == given) {
            return false;
        }
        for (int v = 0; v < VERTICES; v++) {
            if (part[v] == given) {
                part[v] = kept;
            }
        }
        return true;
    }
}
