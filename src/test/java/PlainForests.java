import java.util.ArrayList;
import java.util.Arrays;
import java.util.List;

/**
 * The document's words taken literally, with none of the program's short cuts: every set of
 * edges is looked at, rings are found as sets in which each vertex has an even number of edge
 * ends, and what would be if a weight were another is found by giving it that weight.
 */
final class PlainForests {
    private final int[][] ends = new int[10][];
    private final int[] weights = new int[10];
    private List<Integer> spanning = List.of(0);

    int add(int a, int b, int weight) {
        if (a == b || a < 0 || a > 5 || b < 0 || b > 5 || weight < 0 || weight > 50) {
            return -1;
        }
        for (int e = 0; e < 10; e++) {
            if (ends[e] == null) {
                ends[e] = new int[] {a, b};
                weights[e] = weight;
                spanning = spanningForests();
                return e;
            }
        }
        return -2;
    }

    boolean remove(int e) {
        if (!has(e)) {
            return false;
        }
        ends[e] = null;
        spanning = spanningForests();
        return true;
    }

    boolean reweigh(int e, int weight) {
        if (!has(e) || weight < 0 || weight > 50) {
            return false;
        }
        weights[e] = weight;
        return true;
    }

    int edges() {
        int set = 0;
        for (int e = 0; e < 10; e++) {
            set |= has(e) ? 1 << e : 0;
        }
        return set;
    }

    int weight(int e) {
        return has(e) ? weights[e] : -1;
    }

    int chosen() {
        int best = spanning.get(0);
        for (int set : spanning) {
            int lighter = weightOf(best) - weightOf(set);
            int differ = set ^ best;
            if (lighter > 0 || lighter == 0 && (Integer.lowestOneBit(differ) & set) != 0) {
                best = set;
            }
        }
        return best;
    }

    int total() {
        return weightOf(chosen());
    }

    int limit(int e) {
        if (!has(e)) {
            return -1;
        }
        if (spanning.stream().allMatch(set -> (set >> e & 1) == 1)) {
            return 51;
        }
        int kept = weights[e];
        int limit = -1;
        for (int weight = 0; weight <= 50; weight++) {
            weights[e] = weight;
            limit = (chosen() >> e & 1) == 1 ? weight : limit;
        }
        weights[e] = kept;
        return limit;
    }

    int loss(int e) {
        if (!has(e)) {
            return -1;
        }
        int before = chosen();
        int[] kept = ends[e];
        List<Integer> keptSpanning = spanning;
        remove(e);
        int after = chosen();
        ends[e] = kept;
        spanning = keptSpanning;
        return Integer.bitCount(after) < Integer.bitCount(before) ? -1 : weightOf(after) - weightOf(before);
    }

    int second() {
        int chosen = chosen();
        return spanning.stream().filter(set -> set != chosen).mapToInt(this::weightOf).min().orElse(-1);
    }

    int forests() {
        return cheapest().size();
    }

    int allForests() {
        return spanning.size();
    }

    int narrowest(int a, int b) {
        if (a < 0 || a > 5 || b < 0 || b > 5) {
            return -1;
        }
        int unreached = 1000;
        int[] least = new int[6];
        Arrays.fill(least, unreached);
        least[a] = 0;
        for (int round = 0; round < 6; round++) {
            for (int e = 0; e < 10; e++) {
                if (has(e)) {
                    int u = ends[e][0];
                    int v = ends[e][1];
                    least[v] = Math.min(least[v], Math.max(least[u], weights[e]));
                    least[u] = Math.min(least[u], Math.max(least[v], weights[e]));
                }
            }
        }
        return least[b] == unreached ? -1 : least[b];
    }

    int possible() {
        return cheapest().stream().reduce(0, (x, y) -> x | y);
    }

    int certain() {
        return cheapest().stream().reduce(1023, (x, y) -> x & y);
    }

    private boolean has(int e) {
        return e >= 0 && e < 10 && ends[e] != null;
    }

    private int weightOf(int set) {
        int sum = 0;
        for (int e = 0; e < 10; e++) {
            sum += (set >> e & 1) * weights[e];
        }
        return sum;
    }

    private List<Integer> cheapest() {
        int least = spanning.stream().mapToInt(this::weightOf).min().orElseThrow();
        return spanning.stream().filter(set -> weightOf(set) == least).toList();
    }

    private List<Integer> spanningForests() {
        int all = edges();
        List<Integer> rings = new ArrayList<>();
        boolean[] forest = new boolean[1024];
        for (int set = 0; set < 1024; set++) {
            if ((set & ~all) == 0) {
                if (set != 0 && isEven(set)) {
                    rings.add(set);
                }
                forest[set] = true;
                for (int ring : rings) {
                    forest[set] &= (set & ring) != ring;
                }
            }
        }
        List<Integer> found = new ArrayList<>();
        for (int set = 0; set < 1024; set++) {
            boolean spans = forest[set];
            for (int e = 0; e < 10; e++) {
                boolean further = has(e) && (set >> e & 1) == 0;
                spans &= !(further && forest[set | 1 << e]);
            }
            if (spans) {
                found.add(set);
            }
        }
        return found;
    }

    private boolean isEven(int set) {
        int odd = 0;
        for (int e = 0; e < 10; e++) {
            if ((set >> e & 1) == 1) {
                odd ^= 1 << ends[e][0] ^ 1 << ends[e][1];
            }
        }
        return odd == 0;
    }
}
