import java.util.Arrays;
import java.util.function.Consumer;
import java.util.function.Supplier;

/**
 * A graph written down, from which new objects are made, and against which all that can be
 * seen of an object is held: its answers, the ends of each edge, and the numbers still free.
 * Each look is at a new object, since looking takes edges away, and so that none is used for
 * more than 512 calls.
 */
final class Graph {
    static final Graph EMPTY = of();

    /** Two rings apart; numbers 1 and 4 were given and taken away, 7 to 9 never given. */
    static final Graph SOME = of(0, 1, 9, 0, 5, 1, 1, 2, 7, 2, 0, 8, 0, 5, 2, 3, 4, 0, 4, 3, 50)
            .without(1).without(4);

    /** Ten edges with ten weights, the least and the greatest among them, that join all vertices. */
    static final Graph TEN = of(0, 1, 12, 1, 2, 50, 2, 3, 7, 3, 4, 31, 4, 5, 0,
            5, 0, 44, 0, 3, 28, 1, 4, 9, 2, 5, 3, 1, 0, 25);

    // Row e is {a, b, weight}, or null where no edge has the number e.
    private final int[][] edges;
    private final int given;

    private Graph(int[][] edges, int given) {
        this.edges = edges;
        this.given = given;
    }

    /** Edges 0, 1, 2 and so on, three numbers each: the two vertices and the weight. */
    static Graph of(int... numbers) {
        int[][] edges = new int[10][];
        for (int e = 0; e < numbers.length / 3; e++) {
            edges[e] = Arrays.copyOfRange(numbers, 3 * e, 3 * e + 3);
        }
        return new Graph(edges, numbers.length / 3);
    }

    /** The same graph after edge e has been taken away. */
    Graph without(int e) {
        int[][] fewer = edges.clone();
        fewer[e] = null;
        return new Graph(fewer, given);
    }

    /** The same graph with this edge at the number e, which has been given before or is the next. */
    Graph with(int e, int a, int b, int weight) {
        int[][] other = edges.clone();
        other[e] = new int[] {a, b, weight};
        return new Graph(other, Math.max(given, e + 1));
    }

    boolean has(int e) {
        return edges[e] != null;
    }

    /** The two vertices and the weight of edge e. */
    int[] row(int e) {
        return edges[e].clone();
    }

    int set() {
        int set = 0;
        for (int e = 0; e < 10; e++) {
            set |= has(e) ? 1 << e : 0;
        }
        return set;
    }

    TreeTolerance made() {
        TreeTolerance x = new TreeTolerance();
        for (int e = 0; e < given; e++) {
            int[] edge = has(e) ? edges[e] : new int[] {0, 5, 33};
            x.add(edge[0], edge[1], edge[2]);
        }
        for (int e = 0; e < given; e++) {
            if (!has(e)) {
                x.remove(e);
            }
        }
        return x;
    }

    /** An object made from this graph is, after this call, still this graph. */
    void staysAfter(Answers answers, String name, Consumer<TreeTolerance> call) {
        becomes(answers, name, call, this);
    }

    /** An object made from this graph is, after this call, that other graph. */
    void becomes(Answers answers, String name, Consumer<TreeTolerance> call, Graph other) {
        other.isAllThatIsSeen(answers, "after " + name + ": ", () -> {
            TreeTolerance x = made();
            call.accept(x);
            return x;
        });
    }

    private void isAllThatIsSeen(Answers answers, String after, Supplier<TreeTolerance> maker) {
        answersAsPlain(answers, after, maker.get());
        for (int e = 0; e < 10; e++) {
            if (has(e)) {
                joins(answers, after, maker.get(), e);
            }
        }
        givesFreeNumbers(answers, after, maker.get());
    }

    private void answersAsPlain(Answers answers, String after, TreeTolerance x) {
        PlainForests plain = plain();
        answers.due(after + "edges()", x.edges(), set());
        for (int e = 0; e < 10; e++) {
            answers.due(after + "weight(" + e + ")", x.weight(e), has(e) ? edges[e][2] : -1);
            answers.due(after + "limit(" + e + ")", x.limit(e), plain.limit(e));
            answers.due(after + "loss(" + e + ")", x.loss(e), plain.loss(e));
        }
        answers.due(after + "chosen()", x.chosen(), plain.chosen());
        answers.due(after + "total()", x.total(), plain.total());
        answers.due(after + "second()", x.second(), plain.second());
        answers.due(after + "forests()", x.forests(), plain.forests());
        answers.due(after + "allForests()", x.allForests(), plain.allForests());
        answers.due(after + "possible()", x.possible(), plain.possible());
        answers.due(after + "certain()", x.certain(), plain.certain());
        for (int v = 0; v < 36; v++) {
            answers.due(after + "narrowest(" + v / 6 + ", " + v % 6 + ")",
                    x.narrowest(v / 6, v % 6), plain.narrowest(v / 6, v % 6));
        }
    }

    /** With all other edges gone, the one way that is left shows the ends of edge e. */
    private void joins(Answers answers, String after, TreeTolerance x, int e) {
        for (int other = 0; other < 10; other++) {
            if (other != e) {
                answers.due(after + "remove(" + other + ")", x.remove(other), has(other));
            }
        }
        int ends = 1 << edges[e][0] | 1 << edges[e][1];
        for (int a = 0; a < 6; a++) {
            for (int b = a + 1; b < 6; b++) {
                answers.due(after + "with edge " + e + " alone, narrowest(" + a + ", " + b + ")",
                        x.narrowest(a, b), (1 << a | 1 << b) == ends ? edges[e][2] : -1);
            }
        }
    }

    private void givesFreeNumbers(Answers answers, String after, TreeTolerance x) {
        for (int e = 0; e < 10; e++) {
            if (!has(e)) {
                answers.due(after + "add(2, 4, 17)", x.add(2, 4, 17), e);
                answers.due(after + "weight(" + e + ") of the one added", x.weight(e), 17);
            }
        }
        answers.due(after + "add(2, 4, 17) when ten are there", x.add(2, 4, 17), -2);
    }

    private PlainForests plain() {
        PlainForests plain = new PlainForests();
        for (int[] edge : edges) {
            int[] some = edge == null ? new int[] {0, 5, 33} : edge;
            plain.add(some[0], some[1], some[2]);
        }
        for (int e = 0; e < 10; e++) {
            if (!has(e)) {
                plain.remove(e);
            }
        }
        return plain;
    }
}
