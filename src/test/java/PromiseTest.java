/** The promises of the document one by one, on graphs small enough to work out by hand. */
final class PromiseTest {
    private static final Answers ANSWERS = new Answers();
    private static final int[] NO_EDGE_NUMBERS = {-1, 10, 31, 32, -32, 33, Integer.MAX_VALUE, Integer.MIN_VALUE};
    private static final int[] NO_VERTICES = {-1, 6, 7, Integer.MAX_VALUE, Integer.MIN_VALUE};
    private static final int[] NO_WEIGHTS = {-1, 51, 52, Integer.MAX_VALUE, Integer.MIN_VALUE};

    public static void main(String[] args) {
        newObject();
        objectsAreApart();
        addGivesLeastFreeNumber();
        addRefusesWrongInputs();
        addTestsNoneBeforeFull();
        remove();
        reweigh();
        edgesAndWeight();
        chosenOfDifferentWeights();
        chosenOfEqualWeights();
        chosenOfSeveralParts();
        total();
        limitOfRing();
        limitAtItsEdges();
        loss();
        second();
        forestsAndAllForests();
        manyForests();
        narrowest();
        narrowestOfWrongInputs();
        possibleAndCertain();
        questionsChangeNothing();
        ANSWERS.close();
    }

    private static void due(String what, int got, int want) {
        ANSWERS.due(what, got, want);
    }

    private static void due(String what, boolean got, boolean want) {
        ANSWERS.due(what, got, want);
    }

    /** A new object with these edges, three numbers each: the two vertices and the weight. */
    private static TreeTolerance graph(int... numbers) {
        TreeTolerance x = new TreeTolerance();
        for (int i = 0; i < numbers.length; i += 3) {
            due("graph: add", x.add(numbers[i], numbers[i + 1], numbers[i + 2]), i / 3);
        }
        return x;
    }

    private static int set(int... numbers) {
        int set = 0;
        for (int e : numbers) {
            set |= 1 << e;
        }
        return set;
    }

    private static void newObject() {
        TreeTolerance x = new TreeTolerance();
        due("new: edges", x.edges(), 0);
        due("new: chosen", x.chosen(), 0);
        due("new: total", x.total(), 0);
        due("new: second", x.second(), TreeTolerance.NONE);
        due("new: forests", x.forests(), 1);
        due("new: allForests", x.allForests(), 1);
        due("new: possible", x.possible(), 0);
        due("new: certain", x.certain(), 0);
        for (int e = 0; e < 10; e++) {
            due("new: weight " + e, x.weight(e), TreeTolerance.NONE);
            due("new: limit " + e, x.limit(e), TreeTolerance.NONE);
            due("new: loss " + e, x.loss(e), -1);
            due("new: remove " + e, x.remove(e), false);
            due("new: reweigh " + e, x.reweigh(e, 1), false);
        }
    }

    private static void objectsAreApart() {
        TreeTolerance x = graph(0, 1, 5);
        TreeTolerance y = graph(2, 3, 9, 3, 4, 8);
        due("apart: edges of the first", x.edges(), set(0));
        due("apart: weight in the first", x.weight(0), 5);
        due("apart: total of the second", y.total(), 17);
        due("apart: way in the first", x.narrowest(2, 3), TreeTolerance.NONE);
    }

    private static void addGivesLeastFreeNumber() {
        TreeTolerance x = new TreeTolerance();
        for (int e = 0; e < 10; e++) {
            due("add: number", x.add(e % 6, (e + 1) % 6, 5 * e), e);
        }
        due("add: an eleventh", x.add(0, 1, 1), TreeTolerance.FULL);
        due("add: edges after FULL", x.edges(), 1023);
        due("add: weight after FULL", x.weight(0), 0);
        x.remove(7);
        x.remove(3);
        due("add: least free number", x.add(5, 0, 50), 3);
        due("add: its weight", x.weight(3), 50);
        due("add: next free number", x.add(0, 5, 0), 7);
        due("add: full again", x.add(0, 5, 0), TreeTolerance.FULL);
        x.remove(9);
        due("add: the last number", x.add(2, 4, 1), 9);
    }

    private static void addRefusesWrongInputs() {
        TreeTolerance x = new TreeTolerance();
        for (int v = 0; v < 6; v++) {
            due("add: a = b = " + v, x.add(v, v, 1), TreeTolerance.NONE);
        }
        for (int v : NO_VERTICES) {
            due("add: a = " + v, x.add(v, 1, 1), TreeTolerance.NONE);
            due("add: b = " + v, x.add(1, v, 1), TreeTolerance.NONE);
            due("add: a = b = " + v, x.add(v, v, 1), TreeTolerance.NONE);
        }
        for (int weight : NO_WEIGHTS) {
            due("add: weight " + weight, x.add(0, 1, weight), TreeTolerance.NONE);
        }
        due("add: edges after wrong inputs", x.edges(), 0);
        due("add: least weight, outermost vertices", x.add(0, 5, 0), 0);
        due("add: greatest weight, the other way round", x.add(5, 0, 50), 1);
    }

    private static void addTestsNoneBeforeFull() {
        TreeTolerance x = new TreeTolerance();
        for (int e = 0; e < 10; e++) {
            x.add(0, 1, e);
        }
        due("full: right inputs", x.add(2, 3, 4), TreeTolerance.FULL);
        due("full: a = b", x.add(2, 2, 4), TreeTolerance.NONE);
        due("full: a wrong", x.add(-1, 2, 4), TreeTolerance.NONE);
        due("full: b wrong", x.add(2, 6, 4), TreeTolerance.NONE);
        due("full: weight too small", x.add(2, 3, -1), TreeTolerance.NONE);
        due("full: weight too great", x.add(2, 3, 51), TreeTolerance.NONE);
    }

    private static void remove() {
        TreeTolerance x = graph(0, 1, 4, 1, 2, 5, 2, 0, 6);
        for (int e : NO_EDGE_NUMBERS) {
            due("remove " + e, x.remove(e), false);
        }
        due("remove: a number never given", x.remove(3), false);
        due("remove: edges before", x.edges(), 7);
        due("remove 1", x.remove(1), true);
        due("remove 1 again", x.remove(1), false);
        due("remove: edges after", x.edges(), set(0, 2));
        due("remove: weight of the removed", x.weight(1), TreeTolerance.NONE);
        due("remove: weight of another", x.weight(2), 6);
        due("remove: chosen after", x.chosen(), set(0, 2));
        due("remove: limit of the removed", x.limit(1), TreeTolerance.NONE);
        due("remove: loss of the removed", x.loss(1), -1);
        due("remove: reweigh of the removed", x.reweigh(1, 3), false);
        due("remove: way after", x.narrowest(1, 2), 6);
    }

    private static void reweigh() {
        TreeTolerance x = graph(0, 1, 4, 0, 1, 5);
        due("reweigh to 0", x.reweigh(1, 0), true);
        due("reweigh: weight", x.weight(1), 0);
        due("reweigh: weight of another", x.weight(0), 4);
        due("reweigh: chosen", x.chosen(), set(1));
        due("reweigh to 50", x.reweigh(1, 50), true);
        due("reweigh: weight", x.weight(1), 50);
        due("reweigh: chosen", x.chosen(), set(0));
        due("reweigh to the same", x.reweigh(1, 50), true);
        for (int weight : NO_WEIGHTS) {
            due("reweigh to " + weight, x.reweigh(1, weight), false);
        }
        for (int e : NO_EDGE_NUMBERS) {
            due("reweigh edge " + e, x.reweigh(e, 7), false);
        }
        due("reweigh: a number never given", x.reweigh(2, 7), false);
        due("reweigh: edges after", x.edges(), set(0, 1));
        due("reweigh: weight 0 after", x.weight(0), 4);
        due("reweigh: weight 1 after", x.weight(1), 50);
    }

    private static void edgesAndWeight() {
        TreeTolerance x = graph(0, 1, 0, 1, 2, 50, 2, 3, 17);
        due("edges", x.edges(), 7);
        due("weight 0", x.weight(0), 0);
        due("weight 1", x.weight(1), 50);
        due("weight 2", x.weight(2), 17);
        due("weight of a number never given", x.weight(3), TreeTolerance.NONE);
        for (int e : NO_EDGE_NUMBERS) {
            due("weight " + e, x.weight(e), TreeTolerance.NONE);
        }
    }

    private static void chosenOfDifferentWeights() {
        TreeTolerance x = graph(0, 1, 9, 1, 2, 8, 2, 0, 7);
        due("ring: chosen", x.chosen(), set(1, 2));
        x = graph(0, 1, 30, 1, 2, 10, 2, 3, 40, 3, 0, 20, 0, 2, 15);
        due("square with a diagonal: chosen", x.chosen(), set(1, 3, 4));
        x = graph(0, 1, 3, 0, 1, 2, 0, 1, 1);
        due("three edges side by side: chosen", x.chosen(), set(2));
    }

    private static void chosenOfEqualWeights() {
        TreeTolerance x = graph(0, 1, 5, 1, 2, 5, 2, 0, 5);
        due("equal ring: chosen", x.chosen(), set(0, 1));
        // Edge 0 weighs more than the rest of its ring, so a least number alone does not get it in.
        x = graph(0, 1, 6, 1, 2, 5, 2, 0, 5);
        due("heavy least number: chosen", x.chosen(), set(1, 2));
        // 1 and 2 go for certain; 0 and 3 weigh the same and close the same ring.
        x = graph(0, 3, 9, 0, 1, 2, 2, 3, 1, 1, 2, 9);
        due("tie of the heaviest: chosen", x.chosen(), set(0, 1, 2));
        x = graph(0, 1, 0, 1, 0, 0, 0, 1, 0, 1, 2, 0, 2, 0, 0, 0, 2, 0);
        due("all weights 0: chosen", x.chosen(), set(0, 3));
        // The number decides, not the time at which the edge came.
        x = graph(0, 1, 5, 1, 2, 5, 2, 0, 5);
        x.remove(0);
        due("number given anew", x.add(4, 5, 5), 0);
        due("number given anew once more", x.add(0, 1, 5), 3);
        due("late edge: chosen", x.chosen(), set(0, 1, 2));
    }

    private static void chosenOfSeveralParts() {
        TreeTolerance x = graph(0, 1, 1, 1, 2, 2, 2, 0, 3, 3, 4, 50, 4, 5, 49, 5, 3, 48);
        due("two rings: chosen", x.chosen(), set(0, 1, 4, 5));
        due("two rings: total", x.total(), 100);
        due("two rings: allForests", x.allForests(), 9);
        due("two rings: second", x.second(), 101);
        due("two rings: limit in the second", x.limit(3), 49);
        due("two rings: no way across", x.narrowest(0, 3), TreeTolerance.NONE);
    }

    private static void total() {
        due("total of one edge", graph(2, 5, 50).total(), 50);
        due("total of weight 0", graph(2, 5, 0).total(), 0);
        due("total of a path", graph(0, 1, 50, 1, 2, 50, 2, 3, 50, 3, 4, 50, 4, 5, 50).total(), 250);
        due("total of a ring", graph(0, 1, 9, 1, 2, 8, 2, 0, 7).total(), 15);
    }

    private static void limitOfRing() {
        // Without e the heavier of the other two decides; at its weight the lesser number goes first.
        TreeTolerance x = graph(0, 1, 9, 1, 2, 8, 2, 0, 7);
        due("ring: limit 0", x.limit(0), 8);
        due("ring: limit 1", x.limit(1), 8);
        due("ring: limit 2", x.limit(2), 8);
        x = graph(0, 1, 4, 1, 2, 8, 2, 0, 8);
        due("tied ring: limit 0", x.limit(0), 8);
        due("tied ring: limit 1", x.limit(1), 8);
        due("tied ring: limit 2", x.limit(2), 7);
        // At weight 8 edge 1 would go before edge 2, but behind edge 0.
        x = graph(0, 1, 8, 0, 1, 3, 0, 1, 8);
        due("side by side: limit 1", x.limit(1), 7);
        due("side by side: limit 0", x.limit(0), 3);
        due("side by side: limit 2", x.limit(2), 2);
        for (int e : NO_EDGE_NUMBERS) {
            due("limit " + e, x.limit(e), TreeTolerance.NONE);
        }
        due("limit of a number never given", x.limit(3), TreeTolerance.NONE);
    }

    private static void limitAtItsEdges() {
        TreeTolerance x = graph(0, 1, 0, 0, 1, 0, 1, 2, 50);
        due("beside a 0: limit 0", x.limit(0), 0);
        due("beside a lesser 0: limit 1", x.limit(1), TreeTolerance.NONE);
        due("every forest has it: limit 2", x.limit(2), 51);
        x.reweigh(2, 0);
        due("every forest has it, weight 0: limit 2", x.limit(2), 51);
        x = graph(0, 1, 1, 0, 1, 50);
        due("beside a 50: limit 0", x.limit(0), 50);
        x = graph(0, 1, 50, 0, 1, 1);
        due("beside a lesser 50: limit 1", x.limit(1), 49);
        due("beside a 1: limit 0", x.limit(0), 1);
        x = graph(0, 1, 1, 0, 1, 1);
        due("beside a lesser 1: limit 1", x.limit(1), 0);
        due("weight after limit", x.weight(1), 1);
    }

    private static void loss() {
        TreeTolerance x = graph(0, 1, 10, 1, 2, 20, 2, 0, 35, 2, 3, 5);
        due("loss 0", x.loss(0), 25);
        due("loss 1", x.loss(1), 15);
        due("loss of one not chosen", x.loss(2), 0);
        due("loss of one that every forest has", x.loss(3), -1);
        due("loss of a number never given", x.loss(4), -1);
        for (int e : NO_EDGE_NUMBERS) {
            due("loss " + e, x.loss(e), -1);
        }
        due("edges after loss", x.edges(), 15);
        x = graph(0, 1, 5, 1, 0, 5);
        due("loss of one with an equal beside it", x.loss(0), 0);
        x = graph(0, 1, 0, 1, 0, 50);
        due("greatest loss", x.loss(0), 50);
    }

    private static void second() {
        due("second of one edge", graph(0, 1, 5).second(), TreeTolerance.NONE);
        due("second of a path", graph(0, 1, 5, 1, 2, 5).second(), TreeTolerance.NONE);
        due("second of a ring", graph(0, 1, 9, 1, 2, 8, 2, 0, 7).second(), 16);
        due("second as cheap as the chosen", graph(0, 1, 8, 1, 2, 8, 2, 0, 7).second(), 15);
        due("second of weight 0", graph(0, 1, 0, 0, 1, 0).second(), 0);
        due("second of two rings", graph(0, 1, 1, 0, 1, 9, 2, 3, 1, 2, 3, 4).second(), 5);
    }

    private static void forestsAndAllForests() {
        TreeTolerance x = graph(0, 1, 5, 1, 2, 5, 2, 0, 5);
        due("equal ring: forests", x.forests(), 3);
        due("equal ring: allForests", x.allForests(), 3);
        x.reweigh(0, 4);
        due("one lighter: forests", x.forests(), 2);
        x.reweigh(1, 6);
        due("all different: forests", x.forests(), 1);
        due("all different: allForests", x.allForests(), 3);
        x = graph(0, 1, 5, 1, 2, 6, 4, 5, 7);
        due("no ring: forests", x.forests(), 1);
        due("no ring: allForests", x.allForests(), 1);
    }

    private static void manyForests() {
        // Two of each side of a ring of five vertices: 5 sides to leave out, 2 edges for each of the rest.
        TreeTolerance x = graph(0, 1, 1, 1, 2, 1, 2, 3, 1, 3, 4, 1, 4, 0, 1, 0, 1, 1, 1, 2, 1, 2, 3, 1, 3, 4, 1, 4, 0, 1);
        due("doubled ring: forests", x.forests(), 80);
        due("doubled ring: allForests", x.allForests(), 80);
        // All ten pairs of five vertices: 5 to the power of 3.
        x = graph(0, 1, 2, 0, 2, 2, 0, 3, 2, 0, 4, 2, 1, 2, 2, 1, 3, 2, 1, 4, 2, 2, 3, 2, 2, 4, 2, 3, 4, 2);
        due("all pairs of five: forests", x.forests(), 125);
        due("all pairs of five: chosen", x.chosen(), set(0, 1, 2, 3));
        x.reweigh(9, 3);
        due("all pairs of five, one heavier: forests", x.forests(), 75);
        due("all pairs of five, one heavier: allForests", x.allForests(), 125);
        due("all pairs of five, one heavier: possible", x.possible(), 511);
    }

    private static void narrowest() {
        TreeTolerance x = graph(0, 1, 10, 1, 2, 30, 0, 3, 20, 3, 2, 25, 2, 4, 0);
        due("the less narrow way round", x.narrowest(0, 2), 25);
        due("the same way back", x.narrowest(2, 0), 25);
        due("one edge", x.narrowest(0, 1), 10);
        due("round about an edge", x.narrowest(1, 2), 25);
        due("an edge of weight 0", x.narrowest(2, 4), 0);
        due("on past an edge of weight 0", x.narrowest(0, 4), 25);
        due("no way", x.narrowest(0, 5), TreeTolerance.NONE);
        for (int v = 0; v < 6; v++) {
            due("from " + v + " to itself", x.narrowest(v, v), 0);
        }
        due("the greatest weight", graph(4, 5, 50).narrowest(5, 4), 50);
    }

    private static void narrowestOfWrongInputs() {
        TreeTolerance x = graph(0, 1, 10);
        for (int v : NO_VERTICES) {
            due("narrowest from " + v, x.narrowest(v, 0), TreeTolerance.NONE);
            due("narrowest to " + v, x.narrowest(0, v), TreeTolerance.NONE);
            due("narrowest from and to " + v, x.narrowest(v, v), TreeTolerance.NONE);
        }
    }

    private static void possibleAndCertain() {
        TreeTolerance x = graph(0, 1, 5, 1, 2, 5, 2, 0, 5, 2, 3, 9);
        due("equal ring: possible", x.possible(), 15);
        due("equal ring: certain", x.certain(), set(3));
        x.reweigh(0, 4);
        due("one lighter: possible", x.possible(), 15);
        due("one lighter: certain", x.certain(), set(0, 3));
        x.reweigh(2, 6);
        due("all different: possible", x.possible(), set(0, 1, 3));
        due("all different: certain", x.certain(), set(0, 1, 3));
        x.reweigh(0, 6);
        due("chosen of a tie", x.chosen(), set(0, 1, 3));
        due("a tie: possible", x.possible(), 15);
        due("a tie: certain", x.certain(), set(1, 3));
    }

    private static void questionsChangeNothing() {
        TreeTolerance x = graph(0, 1, 5, 1, 2, 6, 2, 0, 7, 3, 4, 8);
        for (int round = 0; round < 3; round++) {
            due("round: edges", x.edges(), 15);
            due("round: chosen", x.chosen(), set(0, 1, 3));
            due("round: total", x.total(), 19);
            due("round: limit", x.limit(2), 5);
            due("round: loss", x.loss(0), 2);
            due("round: second", x.second(), 20);
            due("round: forests", x.forests(), 1);
            due("round: allForests", x.allForests(), 3);
            due("round: narrowest", x.narrowest(0, 2), 6);
            due("round: possible", x.possible(), set(0, 1, 3));
            due("round: certain", x.certain(), set(0, 1, 3));
            for (int e = 0; e < 4; e++) {
                due("round: weight", x.weight(e), 5 + e);
            }
        }
    }
}
