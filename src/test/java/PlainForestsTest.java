import java.util.Random;

/** Long runs of mixed calls, right and wrong ones, each answer held against PlainForests. */
final class PlainForestsTest {
    private static final int OBJECTS = 600;
    private static final int CALLS = 512;

    private final Answers answers = new Answers();
    // A set seed: the same calls every time.
    private final Random random = new Random(20261115);

    private TreeTolerance x;
    private PlainForests plain;
    private int vertices;
    private int leastWeight;
    private int weightSpan;

    public static void main(String[] args) {
        PlainForestsTest test = new PlainForestsTest();
        for (int object = 0; object < OBJECTS; object++) {
            test.begin(object);
            for (int call = 0; call < CALLS; call++) {
                test.call("object " + object + ", call " + call + ": ");
            }
        }
        test.answers.close();
    }

    /** Few vertices make many rings, and a narrow span of weights makes many ties. */
    private void begin(int object) {
        x = new TreeTolerance();
        plain = new PlainForests();
        vertices = 2 + object % 5;
        weightSpan = new int[] {1, 2, 4, 51}[object / 5 % 4];
        leastWeight = random.nextBoolean() ? 0 : 51 - weightSpan;
    }

    private int someVertex() {
        return random.nextInt(20) == 0 ? random.nextInt(10) - 2 : random.nextInt(vertices);
    }

    private int someWeight() {
        return random.nextInt(20) == 0 ? random.nextInt(56) - 2 : leastWeight + random.nextInt(weightSpan);
    }

    private int someEdge() {
        return random.nextInt(12) - 1;
    }

    private void call(String where) {
        int kind = random.nextInt(20);
        if (kind < 8) {
            changeOrLook(where, kind);
        } else {
            ask(where, kind);
        }
    }

    private void changeOrLook(String where, int kind) {
        int e = someEdge();
        int weight = someWeight();
        int a = someVertex();
        int b = someVertex();
        switch (kind) {
            case 0, 1, 2 -> answers.due(where + "add(" + a + ", " + b + ", " + weight + ")",
                    x.add(a, b, weight), plain.add(a, b, weight));
            case 3 -> answers.due(where + "remove(" + e + ")", x.remove(e), plain.remove(e));
            case 4, 5 -> answers.due(where + "reweigh(" + e + ", " + weight + ")",
                    x.reweigh(e, weight), plain.reweigh(e, weight));
            case 6 -> answers.due(where + "weight(" + e + ")", x.weight(e), plain.weight(e));
            default -> answers.due(where + "narrowest(" + a + ", " + b + ")",
                    x.narrowest(a, b), plain.narrowest(a, b));
        }
    }

    private void ask(String where, int kind) {
        int e = someEdge();
        switch (kind) {
            case 8 -> answers.due(where + "edges()", x.edges(), plain.edges());
            case 9 -> answers.due(where + "chosen()", x.chosen(), plain.chosen());
            case 10 -> answers.due(where + "total()", x.total(), plain.total());
            case 11, 12 -> answers.due(where + "limit(" + e + ")", x.limit(e), plain.limit(e));
            case 13, 14 -> answers.due(where + "loss(" + e + ")", x.loss(e), plain.loss(e));
            case 15 -> answers.due(where + "second()", x.second(), plain.second());
            case 16 -> answers.due(where + "forests()", x.forests(), plain.forests());
            case 17 -> answers.due(where + "allForests()", x.allForests(), plain.allForests());
            case 18 -> answers.due(where + "possible()", x.possible(), plain.possible());
            default -> answers.due(where + "certain()", x.certain(), plain.certain());
        }
    }
}
