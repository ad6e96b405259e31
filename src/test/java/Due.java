/** Counts the answers that are not the ones that are due, and tells under which sentence of the document they fall. */
final class Due {
    private String sentence = "";
    private int wrong = 0;

    /** What follows tests this sentence. */
    void sentence(String words) {
        sentence = "[" + words + "] ";
    }

    void equal(String call, long got, long want) {
        if (got != want) {
            tell(call + " answered " + got + ", due is " + want);
        }
    }

    void holds(String what, boolean held) {
        if (!held) {
            tell("does not hold: " + what);
        }
    }

    void tell(String fault) {
        wrong++;
        System.out.println(sentence + fault);
    }

    void end() {
        System.out.println(wrong == 0 ? "all answers are as due" : wrong + " answers are not as due");
        if (wrong != 0) {
            System.exit(1);
        }
    }
}
