import java.util.function.ToIntBiFunction;

/**
 * The boundary cases that the document names for the questions about forests and ways: the
 * section "Terms" and promises 7 to 16, a test for each sentence, worked out by hand.
 */
final class QuestionBoundaryTest {
    private static final int NONE = TreeTolerance.NONE;

    private static final Graph[] GRAPHS = {Graph.EMPTY, Graph.SOME, Graph.TEN};
    private static final Graph ONE = Graph.of(2, 5, 50);
    private static final Graph PATH = Graph.of(0, 1, 50, 1, 2, 50, 2, 3, 50, 3, 4, 50, 4, 5, 50);
    private static final Graph SIX_RING = Graph.of(0, 1, 3, 1, 2, 8, 2, 3, 5, 3, 4, 9, 4, 5, 2, 5, 0, 9);
    private static final Graph EQUAL_RING = Graph.of(0, 1, 5, 1, 2, 5, 2, 0, 5);
    /** An edge (number 3) between two rings. */
    private static final Graph BRIDGE = Graph.of(0, 1, 4, 1, 2, 4, 2, 0, 4, 2, 3, 0, 3, 4, 6, 4, 3, 6);
    private static final Graph TEN_ALIKE = Graph.of(0, 1, 7, 0, 1, 7, 0, 1, 7, 0, 1, 7, 0, 1, 7,
            1, 0, 7, 1, 0, 7, 1, 0, 7, 1, 0, 7, 1, 0, 7);
    /** Every two of the vertices 0 to 4. */
    private static final Graph ALL_PAIRS = Graph.of(0, 1, 50, 0, 2, 50, 0, 3, 50, 0, 4, 50, 1, 2, 50,
            1, 3, 50, 1, 4, 50, 2, 3, 50, 2, 4, 50, 3, 4, 50);

    private static final Answers ANSWERS = new Answers();

    public static void main(String[] args) {
        terms();
        chosenAndTotal();
        limitAndLoss();
        secondAndCounts();
        waysAndSets();
        test("7 to 16: a question changes nothing", QuestionBoundaryTest::questionsChangeNothing);
        ANSWERS.close();
    }

    private static void terms() {
        test("terms: two edges between the same two vertices make a ring", QuestionBoundaryTest::ringOfTwo);
        test("terms: a ring through all vertices", QuestionBoundaryTest::ringOfSix);
        test("terms: no ring, no edge left out", QuestionBoundaryTest::noRing);
        test("terms: it spans when no further edge can be added", QuestionBoundaryTest::anEmptySetDoesNotSpan);
        test("terms: it spans each part of the graph", QuestionBoundaryTest::partsAreSpannedEach);
        test("terms: the least weight goes before the number", QuestionBoundaryTest::weightGoesBeforeNumber);
        test("terms: of several, the least number on which they differ", QuestionBoundaryTest::leastNumberThatDiffers);
    }

    private static void chosenAndTotal() {
        test("7: no edges", () -> due("chosen", Graph.EMPTY.made().chosen(), 0));
        test("7: bit e for edge e, one edge", QuestionBoundaryTest::chosenOfOneLeft);
        test("7: ten edges", QuestionBoundaryTest::chosenOfTen);
        test("8: no edges", () -> due("total", Graph.EMPTY.made().total(), 0));
        test("8: all weights 0", QuestionBoundaryTest::totalOfZeros);
        test("8: the greatest", QuestionBoundaryTest::totalOfFifties);
    }

    private static void limitAndLoss() {
        test("9: the greatest weight is 50", QuestionBoundaryTest::limitIs50);
        test("9: the greatest weight is 49", QuestionBoundaryTest::limitIs49);
        test("9: the greatest weight is 0", QuestionBoundaryTest::limitIs0);
        test("9: at the same weight the number decides", QuestionBoundaryTest::limitAtTheSameWeight);
        test("9: all else as it is, whatever weight e has", QuestionBoundaryTest::limitWhateverItWeighs);
        test("9: 51 when every spanning forest has it", QuestionBoundaryTest::limitIs51);
        test("9: not 51 when some spanning forest has it not", QuestionBoundaryTest::limitIsNo51);
        test("9: NONE when with none from 0 to 50", QuestionBoundaryTest::limitIsNoWeight);
        test("9: NONE when there is no edge e, no edges", () -> inEmpty(TreeTolerance::limit));
        test("9: NONE when there is no edge e, never given", () -> neverGiven(TreeTolerance::limit));
        test("9: NONE when there is no edge e, taken away", () -> takenAway(TreeTolerance::limit));
        test("9: NONE when there is no edge e, too small", () -> tooSmall(TreeTolerance::limit));
        test("9: NONE when there is no edge e, too great", () -> tooGreat(TreeTolerance::limit));

        test("10: by how much, the greatest", QuestionBoundaryTest::greatestLoss);
        test("10: by how much, 0 when another is as light", QuestionBoundaryTest::lossBesideAnEqual);
        test("10: 0 when the chosen forest does not have e", QuestionBoundaryTest::lossOfOneNotChosen);
        test("10: -1 when spanning forests would have fewer edges", QuestionBoundaryTest::lossOfABridge);
        test("10: -1 when there is no edge e, no edges", () -> inEmpty(TreeTolerance::loss));
        test("10: -1 when there is no edge e, never given", () -> neverGiven(TreeTolerance::loss));
        test("10: -1 when there is no edge e, taken away", () -> takenAway(TreeTolerance::loss));
        test("10: -1 when there is no edge e, too small", () -> tooSmall(TreeTolerance::loss));
        test("10: -1 when there is no edge e, too great", () -> tooGreat(TreeTolerance::loss));
    }

    private static void secondAndCounts() {
        test("11: NONE when there is no other, no edges", () -> due("second", Graph.EMPTY.made().second(), NONE));
        test("11: NONE when there is no other, no ring", QuestionBoundaryTest::secondWithoutRing);
        test("11: NONE when the only ring has been opened", QuestionBoundaryTest::secondOfAnOpenedRing);
        test("11: another with the same weight", QuestionBoundaryTest::secondAsLight);
        test("11: another with the weight 0", QuestionBoundaryTest::secondOfZeros);
        test("11: the only other one, the heaviest", QuestionBoundaryTest::secondIsHeaviest);

        test("12: no edges", () -> due("forests", Graph.EMPTY.made().forests(), 1));
        test("12: no ring", QuestionBoundaryTest::forestsWithoutRing);
        test("12: all with the least weight", QuestionBoundaryTest::forestsAllAlike);
        test("12: one weight apart is not the least", QuestionBoundaryTest::forestsOneApart);

        test("13: no edges", () -> due("allForests", Graph.EMPTY.made().allForests(), 1));
        test("13: no ring", QuestionBoundaryTest::allForestsWithoutRing);
        test("13: ten edges", QuestionBoundaryTest::allForestsOfTen);
        test("13: all, whatever they weigh", QuestionBoundaryTest::allForestsWhateverTheyWeigh);
    }

    private static void waysAndSets() {
        test("14: 0 when a = b", QuestionBoundaryTest::wayToItself);
        test("14: the least number, 0", QuestionBoundaryTest::wayOfZeros);
        test("14: the greatest number, 50", QuestionBoundaryTest::wayOfFifties);
        test("14: weight at most w, not less", QuestionBoundaryTest::wayAtMost);
        test("14: NONE when one can't get from a to b, no edges", QuestionBoundaryTest::noWayInEmpty);
        test("14: NONE when one can't get from a to b, parts", QuestionBoundaryTest::noWayBetweenParts);
        test("14: NONE when one can't get from a to b any more", QuestionBoundaryTest::noWayAnyMore);
        test("14: NONE when a is not 0 .. 5, too small", () -> noWayFrom(WrongInputs.TOO_SMALL));
        test("14: NONE when a is not 0 .. 5, too great", () -> noWayFrom(WrongInputs.TOO_GREAT_VERTICES));
        test("14: NONE when b is not 0 .. 5, too small", () -> noWayTo(WrongInputs.TOO_SMALL));
        test("14: NONE when b is not 0 .. 5, too great", () -> noWayTo(WrongInputs.TOO_GREAT_VERTICES));
        test("14: NONE when a = b is not 0 .. 5, too small", () -> noWayToItself(WrongInputs.TOO_SMALL));
        test("14: NONE when a = b is not 0 .. 5, too great", () -> noWayToItself(WrongInputs.TOO_GREAT_VERTICES));

        test("15: no edges", () -> due("possible", Graph.EMPTY.made().possible(), 0));
        test("15: bit e for edge e, one edge", QuestionBoundaryTest::possibleOfOneLeft);
        test("15: every edge", QuestionBoundaryTest::possibleIsEvery);
        test("15: not one that is heavier by 1", QuestionBoundaryTest::possibleOneApart);
        test("16: no edges", () -> due("certain", Graph.EMPTY.made().certain(), 0));
        test("16: bit e for edge e, one edge", QuestionBoundaryTest::certainOfOneLeft);
        test("16: no edge", QuestionBoundaryTest::certainIsNone);
        test("16: every edge", QuestionBoundaryTest::certainIsEvery);
        test("16: one that is lighter by 1", QuestionBoundaryTest::certainOneApart);
    }

    private static void test(String sentence, Runnable test) {
        ANSWERS.test(sentence, test);
    }

    private static void due(String what, int got, int want) {
        ANSWERS.due(what, got, want);
    }

    private static int set(int... numbers) {
        int set = 0;
        for (int e : numbers) {
            set |= 1 << e;
        }
        return set;
    }

    /** An object of ten edges from which all but edge e have been taken away. */
    private static TreeTolerance oneLeft(int e) {
        TreeTolerance x = Graph.TEN.made();
        for (int other = 0; other < 10; other++) {
            if (other != e) {
                x.remove(other);
            }
        }
        return x;
    }

    private static void noEdge(Graph graph, ToIntBiFunction<TreeTolerance, Integer> question, int e) {
        due("edge " + e, question.applyAsInt(graph.made(), e), -1);
    }

    private static void inEmpty(ToIntBiFunction<TreeTolerance, Integer> question) {
        for (int e = 0; e < 10; e++) {
            noEdge(Graph.EMPTY, question, e);
        }
    }

    private static void neverGiven(ToIntBiFunction<TreeTolerance, Integer> question) {
        for (int e = 7; e < 10; e++) {
            noEdge(Graph.SOME, question, e);
        }
    }

    private static void takenAway(ToIntBiFunction<TreeTolerance, Integer> question) {
        noEdge(Graph.SOME, question, 1);
        noEdge(Graph.SOME, question, 4);
        for (int e = 0; e < 10; e++) {
            noEdge(Graph.TEN.without(e), question, e);
        }
    }

    private static void tooSmall(ToIntBiFunction<TreeTolerance, Integer> question) {
        for (Graph graph : GRAPHS) {
            for (int e : WrongInputs.TOO_SMALL) {
                noEdge(graph, question, e);
            }
        }
    }

    private static void tooGreat(ToIntBiFunction<TreeTolerance, Integer> question) {
        for (Graph graph : GRAPHS) {
            for (int e : WrongInputs.TOO_GREAT_NUMBERS) {
                noEdge(graph, question, e);
            }
        }
    }

    private static void ringOfTwo() {
        TreeTolerance x = Graph.of(0, 1, 9, 0, 1, 8).made();
        due("same way round: chosen", x.chosen(), set(1));
        due("same way round: allForests", x.allForests(), 2);
        x = Graph.of(0, 1, 9, 1, 0, 8).made();
        due("other way round: chosen", x.chosen(), set(1));
        due("other way round: allForests", x.allForests(), 2);
    }

    private static void ringOfSix() {
        TreeTolerance x = SIX_RING.made();
        due("chosen", x.chosen(), set(0, 1, 2, 3, 4));
        due("total", x.total(), 27);
        due("allForests", x.allForests(), 6);
        due("forests", x.forests(), 2);
        due("second", x.second(), 27);
        due("limit of the one left out", x.limit(5), 8);
        due("limit of one taken", x.limit(0), 9);
        due("loss of one taken", x.loss(4), 7);
        due("possible", x.possible(), 63);
        due("certain", x.certain(), set(0, 1, 2, 4));
    }

    private static void noRing() {
        due("path: chosen", PATH.made().chosen(), 31);
        due("path: allForests", PATH.made().allForests(), 1);
        TreeTolerance star = Graph.of(3, 0, 9, 3, 1, 9, 3, 2, 9, 3, 4, 9, 3, 5, 9).made();
        due("star: chosen", star.chosen(), 31);
        due("star: allForests", star.allForests(), 1);
    }

    private static void anEmptySetDoesNotSpan() {
        due("one edge: chosen", ONE.made().chosen(), set(0));
        due("one edge: total", ONE.made().total(), 50);
        due("one edge: allForests", ONE.made().allForests(), 1);
        TreeTolerance x = Graph.of(0, 1, 0, 1, 2, 50).made();
        due("a heavy edge on: chosen", x.chosen(), set(0, 1));
        due("a heavy edge on: forests", x.forests(), 1);
    }

    private static void partsAreSpannedEach() {
        TreeTolerance x = Graph.of(0, 1, 1, 2, 3, 2, 4, 5, 3).made();
        due("three parts: chosen", x.chosen(), set(0, 1, 2));
        due("three parts: total", x.total(), 6);
        x = Graph.of(0, 1, 1, 1, 0, 2, 4, 5, 8, 5, 4, 9).made();
        due("two rings apart: chosen", x.chosen(), set(0, 2));
        due("two rings apart: allForests", x.allForests(), 4);
    }

    private static void weightGoesBeforeNumber() {
        due("0 is heavier by 1", Graph.of(0, 1, 1, 0, 1, 0).made().chosen(), set(1));
        due("0 is heavier by 1", Graph.of(0, 1, 50, 1, 2, 49, 2, 0, 49).made().chosen(), set(1, 2));
        due("0 and 1 are heavier by 1", Graph.of(0, 1, 8, 1, 2, 8, 2, 0, 7, 2, 1, 7).made().chosen(), set(2, 3));
    }

    private static void leastNumberThatDiffers() {
        due("0 or 1", Graph.of(0, 1, 5, 0, 1, 5).made().chosen(), set(0));
        due("{0, 1}, {0, 2} or {1, 2}", EQUAL_RING.made().chosen(), set(0, 1));
        due("{0, 3} or {1, 3} or {2, 3}", Graph.of(0, 1, 4, 1, 0, 4, 0, 1, 4, 1, 2, 4).made().chosen(), set(0, 3));
        // All have 0, so 1 decides, or where 1 is no edge, the next number.
        Graph graph = Graph.of(4, 5, 4, 0, 1, 4, 0, 1, 4, 0, 1, 4);
        due("all have 0", graph.made().chosen(), set(0, 1));
        due("all have 0, 1 is gone", graph.without(1).made().chosen(), set(0, 2));
        due("the last two numbers", lastTwoAlike().chosen(), set(8));
        due("ten alike", TEN_ALIKE.made().chosen(), set(0));
    }

    private static TreeTolerance lastTwoAlike() {
        TreeTolerance x = TEN_ALIKE.made();
        for (int e = 0; e < 8; e++) {
            x.remove(e);
        }
        return x;
    }

    private static void chosenOfOneLeft() {
        for (int e = 0; e < 10; e++) {
            due("edge " + e + " is left", oneLeft(e).chosen(), 1 << e);
        }
    }

    private static void chosenOfTen() {
        // By weight: 4 (0), 8 (3), 2 (7), 7 (9), then 0 (12) takes in the last vertex.
        due("chosen", Graph.TEN.made().chosen(), set(0, 2, 4, 7, 8));
        due("chosen of all pairs alike", ALL_PAIRS.made().chosen(), set(0, 1, 2, 3));
    }

    private static void totalOfZeros() {
        due("one edge", Graph.of(0, 5, 0).made().total(), 0);
        due("a ring", Graph.of(0, 1, 0, 1, 2, 0, 2, 0, 0).made().total(), 0);
    }

    private static void totalOfFifties() {
        due("a path of five", PATH.made().total(), 250);
        due("every edge twice", Graph.of(0, 1, 50, 1, 2, 50, 2, 3, 50, 3, 4, 50, 4, 5, 50,
                0, 1, 50, 1, 2, 50, 2, 3, 50, 3, 4, 50, 4, 5, 50).made().total(), 250);
    }

    private static void limitIs50() {
        due("beside a 50", Graph.of(0, 1, 0, 0, 1, 50).made().limit(0), 50);
        due("beside a 50, itself 50", Graph.of(0, 1, 50, 0, 1, 50).made().limit(0), 50);
        due("a way with a 50", Graph.of(0, 1, 3, 1, 2, 50, 2, 0, 4).made().limit(0), 50);
    }

    private static void limitIs49() {
        due("beside a lesser number's 50", Graph.of(0, 1, 50, 0, 1, 0).made().limit(1), 49);
        due("beside a 49", Graph.of(0, 1, 0, 0, 1, 49).made().limit(0), 49);
    }

    private static void limitIs0() {
        due("beside a 0", Graph.of(0, 1, 9, 0, 1, 0).made().limit(0), 0);
        due("beside a lesser number's 1", Graph.of(0, 1, 1, 0, 1, 9).made().limit(1), 0);
        due("a way with a greater number's 0", Graph.of(0, 1, 0, 1, 2, 9, 2, 0, 0).made().limit(1), 0);
    }

    private static void limitAtTheSameWeight() {
        TreeTolerance x = EQUAL_RING.made();
        due("before both", x.limit(0), 5);
        due("before one", x.limit(1), 5);
        due("behind both", x.limit(2), 4);
    }

    private static void limitWhateverItWeighs() {
        TreeTolerance x = Graph.of(0, 1, 20, 1, 2, 20, 2, 0, 30, 2, 3, 10).made();
        for (int weight = 0; weight <= 50; weight++) {
            x.reweigh(1, weight);
            due("limit when it weighs " + weight, x.limit(1), 30);
            due("limit of the edge between, then", x.limit(3), 51);
            due("weight after limit", x.weight(1), weight);
        }
    }

    private static void limitIs51() {
        due("one edge of weight 50", ONE.made().limit(0), 51);
        due("one edge of weight 0", Graph.of(0, 1, 0).made().limit(0), 51);
        for (int e = 0; e < 5; e++) {
            due("a path, edge " + e, PATH.made().limit(e), 51);
        }
        due("between two rings", BRIDGE.made().limit(3), 51);
        due("a ring that has been opened", EQUAL_RING.without(1).made().limit(2), 51);
        for (int e = 0; e < 10; e++) {
            due("edge " + e + " is left", oneLeft(e).limit(e), 51);
        }
    }

    private static void limitIs(Graph graph, int e, int want) {
        due("limit(" + e + ")", graph.made().limit(e), want);
    }

    private static void limitIsNo51() {
        limitIs(ALL_PAIRS, 0, 50);
        limitIs(ALL_PAIRS, 9, 49);
        limitIs(BRIDGE, 4, 6);
        limitIs(BRIDGE, 0, 4);
    }

    private static void limitIsNoWeight() {
        due("beside a lesser number's 0", Graph.of(0, 1, 0, 0, 1, 0).made().limit(1), NONE);
        due("itself heavier", Graph.of(0, 1, 0, 0, 1, 50).made().limit(1), NONE);
        due("a way of lesser numbers' 0", Graph.of(0, 1, 0, 1, 2, 0, 2, 0, 9).made().limit(2), NONE);
        due("the last number", Graph.of(0, 1, 0, 1, 0, 0, 0, 1, 0, 1, 0, 0, 0, 1, 0,
                1, 0, 0, 0, 1, 0, 1, 0, 0, 0, 1, 0, 1, 0, 0).made().limit(9), NONE);
    }

    private static void greatestLoss() {
        due("0 beside 50", Graph.of(0, 1, 0, 1, 0, 50).made().loss(0), 50);
        due("a way of 0 beside 50", Graph.of(0, 1, 0, 1, 2, 0, 2, 0, 50).made().loss(1), 50);
        due("49 beside 50", Graph.of(0, 1, 49, 1, 0, 50).made().loss(0), 1);
    }

    private static void lossBesideAnEqual() {
        for (int e = 0; e < 3; e++) {
            due("equal ring, edge " + e, EQUAL_RING.made().loss(e), 0);
        }
        for (int e = 0; e < 10; e++) {
            due("ten alike, edge " + e, TEN_ALIKE.made().loss(e), 0);
        }
    }

    private static void lossOfOneNotChosen() {
        due("50 beside 0", Graph.of(0, 1, 0, 1, 0, 50).made().loss(1), 0);
        due("the heaviest of a ring", Graph.of(0, 1, 9, 1, 2, 8, 2, 0, 7).made().loss(0), 0);
        for (int e : new int[] {1, 3, 5, 6, 9}) {
            due("ten edges, edge " + e, Graph.TEN.made().loss(e), 0);
        }
    }

    private static void lossOfABridge() {
        due("one edge of weight 50", ONE.made().loss(0), -1);
        due("one edge of weight 0", Graph.of(0, 1, 0).made().loss(0), -1);
        for (int e = 0; e < 5; e++) {
            due("a path, edge " + e, PATH.made().loss(e), -1);
        }
        due("between two rings", BRIDGE.made().loss(3), -1);
        due("a ring that has been opened", EQUAL_RING.without(1).made().loss(0), -1);
    }

    private static void secondWithoutRing() {
        due("one edge", ONE.made().second(), NONE);
        due("one edge of weight 0", Graph.of(0, 1, 0).made().second(), NONE);
        due("a path", PATH.made().second(), NONE);
        due("three parts", Graph.of(0, 1, 1, 2, 3, 2, 4, 5, 3).made().second(), NONE);
    }

    private static void secondOfAnOpenedRing() {
        TreeTolerance x = EQUAL_RING.made();
        due("the ring", x.second(), 10);
        x.remove(2);
        due("opened", x.second(), NONE);
    }

    private static void secondAsLight() {
        due("equal ring", EQUAL_RING.made().second(), 10);
        due("ten alike", TEN_ALIKE.made().second(), 7);
        due("all pairs alike", ALL_PAIRS.made().second(), 200);
    }

    private static void secondOfZeros() {
        due("two edges", Graph.of(0, 1, 0, 0, 1, 0).made().second(), 0);
        due("a ring", Graph.of(0, 1, 0, 1, 2, 0, 2, 0, 0).made().second(), 0);
    }

    private static void secondIsHeaviest() {
        due("0 and 50", Graph.of(0, 1, 0, 0, 1, 50).made().second(), 50);
        due("a path and a 50 beside its 0", Graph.of(0, 1, 0, 1, 2, 50, 2, 3, 50, 3, 4, 50, 4, 5, 50, 1, 0, 50)
                .made().second(), 250);
    }

    private static void forestsWithoutRing() {
        due("one edge", ONE.made().forests(), 1);
        due("a path", PATH.made().forests(), 1);
        due("three parts", Graph.of(0, 1, 1, 2, 3, 2, 4, 5, 3).made().forests(), 1);
    }

    private static void forestsAllAlike() {
        due("equal ring", EQUAL_RING.made().forests(), 3);
        due("ten alike", TEN_ALIKE.made().forests(), 10);
        due("all pairs alike", ALL_PAIRS.made().forests(), 125);
        due("two rings apart", Graph.of(0, 1, 0, 1, 0, 0, 4, 5, 50, 5, 4, 50).made().forests(), 4);
    }

    private static void forestsOneApart() {
        due("49 beside 50", Graph.of(0, 1, 49, 0, 1, 50).made().forests(), 1);
        due("0 beside 1", Graph.of(0, 1, 1, 0, 1, 0).made().forests(), 1);
        TreeTolerance x = TEN_ALIKE.made();
        x.reweigh(9, 8);
        due("nine alike and a heavier one", x.forests(), 9);
        x.reweigh(9, 6);
        due("nine alike and a lighter one", x.forests(), 1);
    }

    private static void allForestsWithoutRing() {
        due("one edge", ONE.made().allForests(), 1);
        due("a path", PATH.made().allForests(), 1);
        due("three parts", Graph.of(0, 1, 1, 2, 3, 2, 4, 5, 3).made().allForests(), 1);
    }

    private static void allForestsOfTen() {
        due("side by side", TEN_ALIKE.made().allForests(), 10);
        due("all pairs of five", ALL_PAIRS.made().allForests(), 125);
        due("a path, every edge twice", Graph.of(0, 1, 1, 1, 2, 2, 2, 3, 3, 3, 4, 4, 4, 5, 5,
                0, 1, 6, 1, 2, 7, 2, 3, 8, 3, 4, 9, 4, 5, 9).made().allForests(), 32);
    }

    private static void allForestsWhateverTheyWeigh() {
        due("0 and 50", Graph.of(0, 1, 0, 0, 1, 50).made().allForests(), 2);
        TreeTolerance x = ALL_PAIRS.made();
        for (int e = 0; e < 10; e++) {
            x.reweigh(e, 5 * e);
        }
        due("all pairs, no two alike", x.allForests(), 125);
    }

    private static void wayToItself() {
        for (int v = 0; v < 6; v++) {
            due("no edges, " + v, Graph.EMPTY.made().narrowest(v, v), 0);
            due("edges of weight 50, " + v, PATH.made().narrowest(v, v), 0);
            due("ten edges, " + v, Graph.TEN.made().narrowest(v, v), 0);
        }
    }

    private static void wayOfZeros() {
        TreeTolerance x = Graph.of(0, 5, 0, 5, 3, 0, 3, 0, 50).made();
        due("one edge", x.narrowest(0, 5), 0);
        due("one edge, back", x.narrowest(5, 0), 0);
        due("two edges beside a 50", x.narrowest(0, 3), 0);
    }

    private static void wayOfFifties() {
        due("one edge", ONE.made().narrowest(2, 5), 50);
        due("five edges", PATH.made().narrowest(0, 5), 50);
        due("five edges, back", PATH.made().narrowest(5, 0), 50);
        due("a 0 and a 50", Graph.of(0, 1, 0, 1, 2, 50).made().narrowest(0, 2), 50);
    }

    private static void wayAtMost() {
        due("ring of six, short way", SIX_RING.made().narrowest(3, 5), 9);
        due("ring of six, long way", SIX_RING.made().narrowest(0, 3), 8);
        due("49 beside 50", Graph.of(0, 1, 50, 1, 0, 49).made().narrowest(0, 1), 49);
    }

    private static void noWayInEmpty() {
        for (int v = 0; v < 36; v++) {
            if (v / 6 != v % 6) {
                due(v / 6 + " to " + v % 6, Graph.EMPTY.made().narrowest(v / 6, v % 6), NONE);
            }
        }
    }

    private static void noWayBetweenParts() {
        TreeTolerance x = Graph.of(0, 1, 0, 1, 2, 0, 3, 4, 0).made();
        due("0 to 3", x.narrowest(0, 3), NONE);
        due("4 to 2", x.narrowest(4, 2), NONE);
        due("5 to 0", x.narrowest(5, 0), NONE);
        due("0 to 5", x.narrowest(0, 5), NONE);
    }

    private static void noWayAnyMore() {
        TreeTolerance x = PATH.made();
        x.remove(2);
        due("0 to 5", x.narrowest(0, 5), NONE);
        due("2 to 3", x.narrowest(2, 3), NONE);
        due("0 to 2", x.narrowest(0, 2), 50);
        due("3 to 5", x.narrowest(3, 5), 50);
    }

    private static void noWayFrom(int[] wrong) {
        for (Graph graph : GRAPHS) {
            for (int a : wrong) {
                due(a + " to 0", graph.made().narrowest(a, 0), NONE);
                due(a + " to 5", graph.made().narrowest(a, 5), NONE);
            }
        }
    }

    private static void noWayTo(int[] wrong) {
        for (Graph graph : GRAPHS) {
            for (int b : wrong) {
                due("0 to " + b, graph.made().narrowest(0, b), NONE);
                due("5 to " + b, graph.made().narrowest(5, b), NONE);
            }
        }
    }

    private static void noWayToItself(int[] wrong) {
        for (Graph graph : GRAPHS) {
            for (int v : wrong) {
                due(v + " to " + v, graph.made().narrowest(v, v), NONE);
            }
        }
    }

    private static void possibleOfOneLeft() {
        for (int e = 0; e < 10; e++) {
            due("edge " + e + " is left", oneLeft(e).possible(), 1 << e);
        }
    }

    private static void possibleIsEvery() {
        due("equal ring", EQUAL_RING.made().possible(), 7);
        due("ten alike", TEN_ALIKE.made().possible(), 1023);
        due("a path", PATH.made().possible(), 31);
        due("two rings and the edge between", BRIDGE.made().possible(), 63);
    }

    private static void possibleOneApart() {
        due("49 beside 50", Graph.of(0, 1, 49, 0, 1, 50).made().possible(), set(0));
        due("0 beside 1", Graph.of(0, 1, 1, 0, 1, 0).made().possible(), set(1));
        TreeTolerance x = TEN_ALIKE.made();
        x.reweigh(0, 8);
        due("nine alike and a heavier one", x.possible(), 1022);
        x.reweigh(0, 6);
        due("nine alike and a lighter one", x.possible(), 1);
    }

    private static void certainOfOneLeft() {
        for (int e = 0; e < 10; e++) {
            due("edge " + e + " is left", oneLeft(e).certain(), 1 << e);
        }
    }

    private static void certainIsNone() {
        due("equal ring", EQUAL_RING.made().certain(), 0);
        due("ten alike", TEN_ALIKE.made().certain(), 0);
        due("all pairs alike", ALL_PAIRS.made().certain(), 0);
    }

    private static void certainIsEvery() {
        due("a path", PATH.made().certain(), 31);
        due("three parts", Graph.of(0, 1, 1, 2, 3, 2, 4, 5, 3).made().certain(), 7);
    }

    private static void certainOneApart() {
        due("49 beside 50", Graph.of(0, 1, 50, 0, 1, 49).made().certain(), set(1));
        due("the edge between two rings", BRIDGE.made().certain(), set(3));
        TreeTolerance x = TEN_ALIKE.made();
        x.reweigh(9, 6);
        due("nine alike and a lighter one", x.certain(), 512);
        x = EQUAL_RING.made();
        x.reweigh(2, 4);
        due("a ring with a lighter one", x.certain(), set(2));
    }

    private static void questionsChangeNothing() {
        for (Graph graph : new Graph[] {Graph.EMPTY, Graph.SOME, Graph.TEN, BRIDGE, ALL_PAIRS}) {
            graph.staysAfter(ANSWERS, "questions", x -> {
                for (int e = -1; e <= 10; e++) {
                    x.limit(e);
                    x.loss(e);
                }
                for (int v = 0; v < 64; v++) {
                    x.narrowest(v / 8 - 1, v % 8 - 1);
                }
                x.edges();
                x.chosen();
                x.total();
                x.second();
                x.forests();
                x.allForests();
                x.possible();
                x.certain();
            });
        }
    }
}
