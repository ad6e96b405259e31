/**
 * "An object is used for at most 512 calls after it has been made": runs of 512 calls in which edits and questions
 * come in any order, the answers held against the model's up to the last.
 */
public final class LongUseTest {
    private static final int CALLS = 512;
    private static final String[] QUESTIONS = {
        "patternLength", "textLength", "occurrences", "apart", "covered", "period", "periods", "leastRotation",
        "factors", "rotationsFound", "overlap",
    };
    private static final String[] QUESTIONS_WITH_ARGUMENT = {"next", "border", "greatestEnd", "factor"};
    private static final String[] EDITS = {"pattern", "scrap", "feed", "feedPattern", "erase"};
    private static final int[] FAR = {Integer.MIN_VALUE, -2, -1, 3, 16, 17, 48, 49, Integer.MAX_VALUE};

    private static final Due due = new Due();
    private static final Row row = new Row(512);

    public static void main(String[] args) {
        due.sentence("What it is: An object is used for at most 512 calls after it has been made");
        for (int round = 0; round < 400; round++) {
            anyRun(1 + round % 3, QUESTIONS[round % QUESTIONS.length], 0);
        }
        for (String last : QUESTIONS_WITH_ARGUMENT) {
            anyRun(2, last, 1);
        }
        for (String last : EDITS) {
            anyRun(2, last, 1);
        }
        due.end();
    }

    private static void anyRun(int letters, String last, int lastArgument) {
        Run x = new Run(due, "", "");
        ModelObject model = new ModelObject();
        for (int call = 1; call < CALLS; call++) {
            String name = anyName();
            step(x, model, call, name, anyArgument(name, letters));
        }
        step(x, model, CALLS, last, lastArgument);
    }

    // The pattern and the text are seldom emptied, so that both come to be full.
    private static String anyName() {
        int choice = row.pick(100);
        if (choice < 1) {
            return "erase";
        }
        if (choice < 3) {
            return "scrap";
        }
        if (choice < 20) {
            return "pattern";
        }
        if (choice < 30) {
            return "feed";
        }
        if (choice < 35) {
            return "feedPattern";
        }
        int question = row.pick(QUESTIONS.length + QUESTIONS_WITH_ARGUMENT.length);
        return question < QUESTIONS.length ? QUESTIONS[question] : QUESTIONS_WITH_ARGUMENT[question - QUESTIONS.length];
    }

    private static int anyArgument(String name, int letters) {
        if (row.pick(12) == 0) {
            return FAR[row.pick(FAR.length)];
        }
        switch (name) {
            case "pattern":
            case "feed":
                return row.pick(letters);
            case "greatestEnd":
                return row.pick(2);
            case "next":
                return row.pick(48);
            default:
                return row.pick(17);
        }
    }

    private static void step(Run x, ModelObject model, int call, String name, int argument) {
        String written = written(name, argument);
        String told = "call " + call + ", on " + model + ": " + written;
        due.equal(told, x.answer(written), model.answer(name, argument));
    }

    private static String written(String name, int argument) {
        switch (name) {
            case "pattern":
            case "feed":
            case "next":
            case "border":
            case "greatestEnd":
            case "factor":
                return name + "(" + argument + ")";
            default:
                return name + "()";
        }
    }
}
