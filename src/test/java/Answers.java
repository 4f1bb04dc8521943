/** Counts the answers that are not the ones that are due, for the tests of the project. */
final class Answers {
    private int asked = 0;
    private int wrong = 0;
    private String sentence = "";

    /** Runs a test of one sentence of the document; its wrong answers are told under that sentence. */
    void test(String sentence, Runnable test) {
        int askedBefore = asked;
        this.sentence = "[" + sentence + "] ";
        test.run();
        due("number of answers looked at is 0", asked == askedBefore, false);
        this.sentence = "";
    }

    void due(String what, int got, int want) {
        asked++;
        if (got != want) {
            tell(what + " answered " + got + ", due is " + want);
        }
    }

    void due(String what, boolean got, boolean want) {
        asked++;
        if (got != want) {
            tell(what + " answered " + got + ", due is " + want);
        }
    }

    /** Ends the program with exit code 1 if an answer was wrong, or if nothing was asked. */
    void close() {
        System.out.println(asked + " answers looked at, " + wrong + " not as due");
        if (wrong != 0 || asked == 0) {
            System.exit(1);
        }
    }

    private void tell(String text) {
        wrong++;
        System.out.println(sentence + text);
    }
}
