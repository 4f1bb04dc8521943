/**
 * The boundary cases that the document names for what changes a graph and for what reads it
 * back: the sections on use, "Terms", and promises 1 to 6 and 17, a test for each sentence.
 */
final class ChangeBoundaryTest {
    private static final int NONE = TreeTolerance.NONE;
    private static final int FULL = TreeTolerance.FULL;

    private static final Graph[] GRAPHS = {Graph.EMPTY, Graph.SOME, Graph.TEN};
    private static final Answers ANSWERS = new Answers();

    public static void main(String[] args) {
        test("use: at most 512 calls", ChangeBoundaryTest::lastCallsOfAnObject);
        test("terms: vertices 0 .. 5", ChangeBoundaryTest::everyPairOfVertices);
        test("terms: at most ten edges, with numbers 0 .. 9", ChangeBoundaryTest::tenEdges);
        test("terms: a weight (0 .. 50)", ChangeBoundaryTest::everyWeight);
        test("terms: two vertices may be joined by several edges", ChangeBoundaryTest::tenEdgesSideBySide);

        test("1: no edges", ChangeBoundaryTest::newObject);
        test("1: no edges, whatever other objects have", ChangeBoundaryTest::newObjectBesideAnother);

        test("2: NONE when a = b", ChangeBoundaryTest::addFromAVertexToItself);
        test("2: NONE when a is not 0 .. 5, too small", ChangeBoundaryTest::addFromTooSmall);
        test("2: NONE when a is not 0 .. 5, too great", ChangeBoundaryTest::addFromTooGreat);
        test("2: NONE when b is not 0 .. 5, too small", ChangeBoundaryTest::addToTooSmall);
        test("2: NONE when b is not 0 .. 5, too great", ChangeBoundaryTest::addToTooGreat);
        test("2: NONE when a and b are both not 0 .. 5", ChangeBoundaryTest::addBetweenNoVertices);
        test("2: NONE when weight is not 0 .. 50, too small", ChangeBoundaryTest::addOfTooSmallWeight);
        test("2: NONE when weight is not 0 .. 50, too great", ChangeBoundaryTest::addOfTooGreatWeight);
        test("2: FULL when ten are there", ChangeBoundaryTest::addWhenTenAreThere);
        test("2: FULL not when nine are there", ChangeBoundaryTest::addWhenNineAreThere);
        test("2: FULL not when ten were there", ChangeBoundaryTest::addAfterManyHaveGone);
        test("2: the least number that no edge has", ChangeBoundaryTest::addGivesLeastOfSeveral);
        test("2: the number given anew is the new edge's", ChangeBoundaryTest::addLeavesNothingOfTheOld);

        test("3: takes edge e away and answers true", ChangeBoundaryTest::removeOfEach);
        test("3: takes the only edge away", ChangeBoundaryTest::removeOfTheOnlyOne);
        test("3: false when there are no edges", ChangeBoundaryTest::removeFromEmpty);
        test("3: false when the number was never given", ChangeBoundaryTest::removeOfOneNeverThere);
        test("3: false when the edge has been taken away", ChangeBoundaryTest::removeOfOneGone);
        test("3: false when e is too small", ChangeBoundaryTest::removeOfTooSmall);
        test("3: false when e is too great", ChangeBoundaryTest::removeOfTooGreat);

        test("4: gives edge e another weight and answers true", ChangeBoundaryTest::reweighOfEach);
        test("4: the same weight is a weight", ChangeBoundaryTest::reweighToTheSame);
        test("4: false when there are no edges", ChangeBoundaryTest::reweighInEmpty);
        test("4: false when the number was never given", ChangeBoundaryTest::reweighOfOneNeverThere);
        test("4: false when the edge has been taken away", ChangeBoundaryTest::reweighOfOneGone);
        test("4: false when e is too small", ChangeBoundaryTest::reweighOfTooSmall);
        test("4: false when e is too great", ChangeBoundaryTest::reweighOfTooGreat);
        test("4: false when weight is not 0 .. 50, too small", ChangeBoundaryTest::reweighToTooSmall);
        test("4: false when weight is not 0 .. 50, too great", ChangeBoundaryTest::reweighToTooGreat);
        test("4: false when both are wrong", ChangeBoundaryTest::reweighOfNoneToNoWeight);

        test("5: the edges, when there are none", ChangeBoundaryTest::edgesOfEmpty);
        test("5: the edges, when ten are there", ChangeBoundaryTest::edgesOfTen);
        test("5: bit e for edge e", ChangeBoundaryTest::edgesOfOneLeft);

        test("6: the weight, the least and the greatest", ChangeBoundaryTest::weightAtItsEnds);
        test("6: NONE when there are no edges", ChangeBoundaryTest::weightInEmpty);
        test("6: NONE when the number was never given", ChangeBoundaryTest::weightOfOneNeverThere);
        test("6: NONE when the edge has been taken away", ChangeBoundaryTest::weightOfOneGone);
        test("6: NONE when e is too small", ChangeBoundaryTest::weightOfTooSmall);
        test("6: NONE when e is too great", ChangeBoundaryTest::weightOfTooGreat);

        test("17: NONE before FULL, a = b", ChangeBoundaryTest::fullAndAVertexToItself);
        test("17: NONE before FULL, a", ChangeBoundaryTest::fullAndFromNoVertex);
        test("17: NONE before FULL, b", ChangeBoundaryTest::fullAndToNoVertex);
        test("17: NONE before FULL, weight", ChangeBoundaryTest::fullAndNoWeight);
        ANSWERS.close();
    }

    private static void test(String sentence, Runnable test) {
        ANSWERS.test(sentence, test);
    }

    private static void due(String what, int got, int want) {
        ANSWERS.due(what, got, want);
    }

    private static void due(String what, boolean got, boolean want) {
        ANSWERS.due(what, got, want);
    }

    private static void addRefused(Graph graph, int a, int b, int weight, int want) {
        String call = "add(" + a + ", " + b + ", " + weight + ")";
        graph.staysAfter(ANSWERS, call, x -> due(call, x.add(a, b, weight), want));
    }

    private static void removeRefused(Graph graph, int e) {
        String call = "remove(" + e + ")";
        graph.staysAfter(ANSWERS, call, x -> due(call, x.remove(e), false));
    }

    private static void reweighRefused(Graph graph, int e, int weight) {
        String call = "reweigh(" + e + ", " + weight + ")";
        graph.staysAfter(ANSWERS, call, x -> due(call, x.reweigh(e, weight), false));
    }

    private static void weightRefused(Graph graph, int e) {
        String call = "weight(" + e + ")";
        graph.staysAfter(ANSWERS, call, x -> due(call, x.weight(e), NONE));
    }

    private static void lastCallsOfAnObject() {
        TreeTolerance x = new TreeTolerance();
        for (int round = 0; round < 127; round++) {
            due("add", x.add(round % 6, (round + 1) % 6, round % 51), 0);
            due("add of a wrong weight", x.add(0, 1, 51), NONE);
            due("reweigh", x.reweigh(0, 50), true);
            due("remove", x.remove(0), true);
        }
        due("call 509: add", x.add(0, 1, 7), 0);
        due("call 510: add", x.add(0, 1, 6), 1);
        due("call 511: limit", x.limit(0), 6);
        due("call 512: total", x.total(), 6);
    }

    private static void everyPairOfVertices() {
        for (int a = 0; a < 6; a++) {
            for (int b = 0; b < 6; b++) {
                if (a != b) {
                    int from = a;
                    int to = b;
                    String call = "add(" + a + ", " + b + ", 1)";
                    Graph.EMPTY.becomes(ANSWERS, call, x -> due(call, x.add(from, to, 1), 0), Graph.of(a, b, 1));
                }
            }
        }
    }

    private static void tenEdges() {
        TreeTolerance x = new TreeTolerance();
        for (int e = 0; e < 10; e++) {
            due("add", x.add(e % 6, (e + 1) % 6, e), e);
            due("edges", x.edges(), (2 << e) - 1);
        }
        due("an eleventh", x.add(0, 1, 0), FULL);
        due("edges after it", x.edges(), 1023);
    }

    private static void everyWeight() {
        for (int weight = 0; weight <= 50; weight++) {
            TreeTolerance x = new TreeTolerance();
            due("add of weight " + weight, x.add(2, 3, weight), 0);
            due("weight of the one added", x.weight(0), weight);
            due("reweigh to " + (50 - weight), x.reweigh(0, 50 - weight), true);
            due("weight of the one reweighed", x.weight(0), 50 - weight);
        }
    }

    private static void tenEdgesSideBySide() {
        TreeTolerance x = new TreeTolerance();
        for (int e = 0; e < 10; e++) {
            due("add", e % 2 == 0 ? x.add(1, 4, 20 - e) : x.add(4, 1, 20 - e), e);
            due("total", x.total(), 20 - e);
            due("allForests", x.allForests(), e + 1);
        }
    }

    private static void newObject() {
        Graph.EMPTY.staysAfter(ANSWERS, "nothing", x -> due("edges()", x.edges(), 0));
    }

    private static void newObjectBesideAnother() {
        TreeTolerance ten = Graph.TEN.made();
        Graph.EMPTY.staysAfter(ANSWERS, "another was filled", x -> due("edges of the other", ten.edges(), 1023));
        Graph.TEN.staysAfter(ANSWERS, "another was made", x -> due("edges of the other", new TreeTolerance().edges(), 0));
    }

    private static void addFromAVertexToItself() {
        for (int v = 0; v < 6; v++) {
            addRefused(Graph.EMPTY, v, v, 1, NONE);
            addRefused(Graph.SOME, v, v, 1, NONE);
        }
    }

    private static void addFromTooSmall() {
        for (int a : WrongInputs.TOO_SMALL) {
            addRefused(Graph.EMPTY, a, 1, 1, NONE);
            addRefused(Graph.SOME, a, 5, 1, NONE);
        }
    }

    private static void addFromTooGreat() {
        for (int a : WrongInputs.TOO_GREAT_VERTICES) {
            addRefused(Graph.EMPTY, a, 0, 1, NONE);
            addRefused(Graph.SOME, a, 5, 1, NONE);
        }
    }

    private static void addToTooSmall() {
        for (int b : WrongInputs.TOO_SMALL) {
            addRefused(Graph.EMPTY, 1, b, 1, NONE);
            addRefused(Graph.SOME, 5, b, 1, NONE);
        }
    }

    private static void addToTooGreat() {
        for (int b : WrongInputs.TOO_GREAT_VERTICES) {
            addRefused(Graph.EMPTY, 0, b, 1, NONE);
            addRefused(Graph.SOME, 5, b, 1, NONE);
        }
    }

    private static void addBetweenNoVertices() {
        for (int small : WrongInputs.TOO_SMALL) {
            for (int great : WrongInputs.TOO_GREAT_VERTICES) {
                addRefused(Graph.EMPTY, small, great, 1, NONE);
                addRefused(Graph.EMPTY, great, small, 1, NONE);
            }
            addRefused(Graph.EMPTY, small, small, 1, NONE);
        }
        for (int great : WrongInputs.TOO_GREAT_VERTICES) {
            addRefused(Graph.EMPTY, great, great, 1, NONE);
        }
    }

    private static void addOfTooSmallWeight() {
        for (int weight : WrongInputs.TOO_SMALL) {
            addRefused(Graph.EMPTY, 0, 5, weight, NONE);
            addRefused(Graph.SOME, 5, 0, weight, NONE);
        }
    }

    private static void addOfTooGreatWeight() {
        for (int weight : WrongInputs.TOO_GREAT_WEIGHTS) {
            addRefused(Graph.EMPTY, 0, 5, weight, NONE);
            addRefused(Graph.SOME, 5, 0, weight, NONE);
        }
    }

    private static void addWhenTenAreThere() {
        addRefused(Graph.TEN, 0, 5, 0, FULL);
        addRefused(Graph.TEN, 5, 0, 50, FULL);
        addRefused(Graph.TEN, 2, 4, 17, FULL);
    }

    private static void addWhenNineAreThere() {
        for (int e = 0; e < 10; e++) {
            int number = e;
            Graph.TEN.without(e).becomes(ANSWERS, "add(4, 2, 18)",
                    x -> due("add(4, 2, 18)", x.add(4, 2, 18), number), Graph.TEN.with(e, 4, 2, 18));
        }
    }

    private static void addAfterManyHaveGone() {
        TreeTolerance x = new TreeTolerance();
        for (int round = 0; round < 20; round++) {
            for (int e = 0; e < 10; e++) {
                due("add in round " + round, x.add(0, 1 + e % 5, round), e);
            }
            for (int e = 0; e < 10; e++) {
                due("remove in round " + round, x.remove(9 - e), true);
            }
        }
    }

    private static void addGivesLeastOfSeveral() {
        TreeTolerance x = Graph.TEN.made();
        for (int e : new int[] {8, 0, 9, 5, 3}) {
            due("remove " + e, x.remove(e), true);
        }
        for (int e : new int[] {0, 3, 5, 8, 9}) {
            due("add", x.add(0, 1, 1), e);
        }
        due("add when all are given again", x.add(0, 1, 1), FULL);
    }

    private static void addLeavesNothingOfTheOld() {
        Graph.of(0, 1, 50, 1, 2, 3).becomes(ANSWERS, "remove(0), add(5, 4, 0)", x -> {
            due("remove(0)", x.remove(0), true);
            due("add(5, 4, 0)", x.add(5, 4, 0), 0);
        }, Graph.of(5, 4, 0, 1, 2, 3));
    }

    private static void removeOfEach() {
        for (Graph graph : GRAPHS) {
            for (int e = 0; e < 10; e++) {
                if (graph.has(e)) {
                    int number = e;
                    String call = "remove(" + e + ")";
                    graph.becomes(ANSWERS, call, x -> due(call, x.remove(number), true), graph.without(e));
                }
            }
        }
    }

    private static void removeOfTheOnlyOne() {
        Graph.of(0, 5, 50).becomes(ANSWERS, "remove(0)", x -> due("remove(0)", x.remove(0), true), Graph.EMPTY);
    }

    private static void removeFromEmpty() {
        for (int e = 0; e < 10; e++) {
            removeRefused(Graph.EMPTY, e);
        }
    }

    private static void removeOfOneNeverThere() {
        for (int e = 7; e < 10; e++) {
            removeRefused(Graph.SOME, e);
        }
    }

    private static void removeOfOneGone() {
        removeRefused(Graph.SOME, 1);
        removeRefused(Graph.SOME, 4);
        for (int e = 0; e < 10; e++) {
            removeRefused(Graph.TEN.without(e), e);
        }
    }

    private static void removeOfTooSmall() {
        for (Graph graph : GRAPHS) {
            for (int e : WrongInputs.TOO_SMALL) {
                removeRefused(graph, e);
            }
        }
    }

    private static void removeOfTooGreat() {
        for (Graph graph : GRAPHS) {
            for (int e : WrongInputs.TOO_GREAT_NUMBERS) {
                removeRefused(graph, e);
            }
        }
    }

    private static void reweighOfEach() {
        for (int e = 0; e < 10; e++) {
            reweighTo(e, 0);
            reweighTo(e, 50);
        }
    }

    private static void reweighTo(int e, int weight) {
        String call = "reweigh(" + e + ", " + weight + ")";
        int[] row = Graph.TEN.row(e);
        Graph.TEN.becomes(ANSWERS, call, x -> due(call, x.reweigh(e, weight), true),
                Graph.TEN.with(e, row[0], row[1], weight));
    }

    private static void reweighToTheSame() {
        for (int e = 0; e < 10; e++) {
            int number = e;
            int weight = Graph.TEN.row(e)[2];
            String call = "reweigh(" + e + ", " + weight + ")";
            Graph.TEN.staysAfter(ANSWERS, call, x -> due(call, x.reweigh(number, weight), true));
        }
    }

    private static void reweighInEmpty() {
        for (int e = 0; e < 10; e++) {
            reweighRefused(Graph.EMPTY, e, 1);
        }
    }

    private static void reweighOfOneNeverThere() {
        for (int e = 7; e < 10; e++) {
            reweighRefused(Graph.SOME, e, 1);
        }
    }

    private static void reweighOfOneGone() {
        reweighRefused(Graph.SOME, 1, 0);
        reweighRefused(Graph.SOME, 4, 50);
        for (int e = 0; e < 10; e++) {
            reweighRefused(Graph.TEN.without(e), e, 1);
        }
    }

    private static void reweighOfTooSmall() {
        for (Graph graph : GRAPHS) {
            for (int e : WrongInputs.TOO_SMALL) {
                reweighRefused(graph, e, 1);
            }
        }
    }

    private static void reweighOfTooGreat() {
        for (Graph graph : GRAPHS) {
            for (int e : WrongInputs.TOO_GREAT_NUMBERS) {
                reweighRefused(graph, e, 1);
            }
        }
    }

    private static void reweighToTooSmall() {
        for (int weight : WrongInputs.TOO_SMALL) {
            reweighRefused(Graph.SOME, 0, weight);
            reweighRefused(Graph.TEN, 9, weight);
        }
    }

    private static void reweighToTooGreat() {
        for (int weight : WrongInputs.TOO_GREAT_WEIGHTS) {
            reweighRefused(Graph.SOME, 0, weight);
            reweighRefused(Graph.TEN, 9, weight);
        }
    }

    private static void reweighOfNoneToNoWeight() {
        for (int e : new int[] {-1, 1, 9, 10}) {
            reweighRefused(Graph.SOME, e, -1);
            reweighRefused(Graph.SOME, e, 51);
        }
    }

    private static void edgesOfEmpty() {
        due("edges of a new object", new TreeTolerance().edges(), 0);
        TreeTolerance x = Graph.TEN.made();
        for (int e = 0; e < 10; e++) {
            x.remove(e);
        }
        due("edges when all were taken away", x.edges(), 0);
    }

    private static void edgesOfTen() {
        due("edges", Graph.TEN.made().edges(), 1023);
    }

    private static void edgesOfOneLeft() {
        for (int e = 0; e < 10; e++) {
            TreeTolerance x = Graph.TEN.made();
            for (int other = 0; other < 10; other++) {
                if (other != e) {
                    x.remove(other);
                }
            }
            due("edges when " + e + " is left", x.edges(), 1 << e);
        }
    }

    private static void weightAtItsEnds() {
        TreeTolerance x = Graph.of(0, 5, 0, 0, 5, 50).made();
        due("weight 0", x.weight(0), 0);
        due("weight 50", x.weight(1), 50);
        x.reweigh(0, 50);
        x.reweigh(1, 0);
        due("weight 0 made 50", x.weight(0), 50);
        due("weight 50 made 0", x.weight(1), 0);
    }

    private static void weightInEmpty() {
        for (int e = 0; e < 10; e++) {
            weightRefused(Graph.EMPTY, e);
        }
    }

    private static void weightOfOneNeverThere() {
        for (int e = 7; e < 10; e++) {
            weightRefused(Graph.SOME, e);
        }
    }

    private static void weightOfOneGone() {
        weightRefused(Graph.SOME, 1);
        weightRefused(Graph.SOME, 4);
        for (int e = 0; e < 10; e++) {
            weightRefused(Graph.TEN.without(e), e);
        }
    }

    private static void weightOfTooSmall() {
        for (Graph graph : GRAPHS) {
            for (int e : WrongInputs.TOO_SMALL) {
                weightRefused(graph, e);
            }
        }
    }

    private static void weightOfTooGreat() {
        for (Graph graph : GRAPHS) {
            for (int e : WrongInputs.TOO_GREAT_NUMBERS) {
                weightRefused(graph, e);
            }
        }
    }

    private static void fullAndAVertexToItself() {
        for (int v = 0; v < 6; v++) {
            addRefused(Graph.TEN, v, v, 1, NONE);
        }
    }

    private static void fullAndFromNoVertex() {
        addRefused(Graph.TEN, -1, 1, 1, NONE);
        addRefused(Graph.TEN, 6, 1, 1, NONE);
        addRefused(Graph.TEN, WrongInputs.LEAST_INT, 1, 1, NONE);
        addRefused(Graph.TEN, WrongInputs.GREATEST_INT, 1, 1, NONE);
    }

    private static void fullAndToNoVertex() {
        addRefused(Graph.TEN, 1, -1, 1, NONE);
        addRefused(Graph.TEN, 1, 6, 1, NONE);
        addRefused(Graph.TEN, 1, WrongInputs.LEAST_INT, 1, NONE);
        addRefused(Graph.TEN, 1, WrongInputs.GREATEST_INT, 1, NONE);
    }

    private static void fullAndNoWeight() {
        addRefused(Graph.TEN, 0, 1, -1, NONE);
        addRefused(Graph.TEN, 0, 1, 51, NONE);
        addRefused(Graph.TEN, 0, 1, WrongInputs.LEAST_INT, NONE);
        addRefused(Graph.TEN, 0, 1, WrongInputs.GREATEST_INT, NONE);
    }
}
