/** Counts the answers that are not as due, and prints them with the sentence of the document that they belong to. */
final class Expect {
    private int wrong = 0;
    private int asked = 0;
    private int askedBefore = 0;
    private String sentence = "";

    Expect() {
        Deadline.set();
    }

    /** The next answers are those of a sentence of the document. */
    void sentence(String words) {
        endSentence();
        sentence = words;
        askedBefore = asked;
    }

    void due(String call, long got, long want) {
        asked++;
        if (got == want) return;
        tell(call + " answered " + got + ", due is " + want);
    }

    void holds(String what, boolean holds) {
        asked++;
        if (!holds) tell("does not hold: " + what);
    }

    void end() {
        endSentence();
        System.out.println(wrong == 0 ? asked + " answers as due" : wrong + " of " + asked + " answers not as due");
        if (wrong != 0) System.exit(1);
    }

    /** A sentence for which nothing was asked has no test. */
    private void endSentence() {
        if (!sentence.isEmpty() && asked == askedBefore) tell("nothing was asked");
        sentence = "";
    }

    private void tell(String what) {
        wrong++;
        System.out.println(sentence.isEmpty() ? what : "\"" + sentence + "\": " + what);
    }
}
