/** Counts the answers that are not as due, and prints them. */
final class Expect {
    private int wrong = 0;
    private int asked = 0;

    void due(String call, long got, long want) {
        asked++;
        if (got == want) return;
        wrong++;
        System.out.println(call + " answered " + got + ", due is " + want);
    }

    void holds(String what, boolean holds) {
        asked++;
        if (holds) return;
        wrong++;
        System.out.println("does not hold: " + what);
    }

    void end() {
        System.out.println(wrong == 0 ? asked + " answers as due" : wrong + " of " + asked + " answers not as due");
        if (wrong != 0) System.exit(1);
    }
}
