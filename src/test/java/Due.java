/** Counts the answers of one test that are not the ones due, and ends the test with exit code 1 if there are any. */
final class Due {
    private String sentence = "";
    private int sentences = 0;
    private int asked = 0;
    private int askedOfSentence = 0;
    private int wrong = 0;
    private int wrongOfSentence = 0;

    /** What follows tests this sentence of the document; a sentence that nothing is asked of counts as wrong. */
    void says(String words) {
        endSentence();
        sentence = words;
        sentences++;
        askedOfSentence = 0;
        wrongOfSentence = 0;
    }

    void is(String call, int got, int want) {
        look(call, got == want, "answered " + got + ", due is " + want);
    }

    void holds(String what, boolean isSo) {
        look(what, isSo, "does not hold");
    }

    void unchanged(String after, ViewRewriter r, String before) {
        look("after " + after, State.of(r).equals(before), "something has changed");
    }

    private void look(String what, boolean isRight, String fault) {
        asked++;
        askedOfSentence++;
        if (!isRight) {
            if (wrongOfSentence == 0 && !sentence.isEmpty()) {
                System.out.println("BROKEN: " + sentence);
            }
            wrong++;
            wrongOfSentence++;
            System.out.println("  " + what + ": " + fault);
        }
    }

    private void endSentence() {
        if (sentences > 0 && askedOfSentence == 0) {
            look("nothing is asked", false, "a sentence without a test");
        }
    }

    void finish() {
        endSentence();
        System.out.println(sentences + " sentences, " + asked + " answers looked at, " + wrong + " wrong");
        if (wrong != 0 || asked == 0 || State.refused() != 0) {
            System.exit(1);
        }
    }
}
