/** The document's object on strings: the edits are made here, and Model answers the questions. */
final class ModelObject {
    private static final int BAD_ARG = -1;
    private static final int FULL = -2;
    private String pattern = "";
    private String text = "";

    @Override
    public String toString() {
        return "pattern '" + pattern + "' and text '" + text + "'";
    }

    /** What the call answers; a call without a parameter takes no heed of the argument, a void one answers 0. */
    int answer(String name, int argument) {
        switch (name) {
            case "pattern":
                return pattern(argument);
            case "scrap":
                pattern = "";
                return 0;
            case "feed":
                return feed(argument);
            case "feedPattern":
                return feedPattern();
            case "erase":
                text = "";
                return 0;
            case "patternLength":
                return pattern.length();
            case "textLength":
                return text.length();
            default:
                return question(new Model(pattern, text), name, argument);
        }
    }

    private int pattern(int c) {
        if (c != 0 && c != 1 && c != 2) {
            return BAD_ARG;
        }
        if (pattern.length() == 16) {
            return FULL;
        }
        pattern += c;
        return pattern.length();
    }

    private int feed(int c) {
        if (c != 0 && c != 1 && c != 2) {
            return BAD_ARG;
        }
        if (text.length() == 48) {
            return FULL;
        }
        text += c;
        return text.length();
    }

    private int feedPattern() {
        String longer = text + pattern;
        if (longer.length() > 48) {
            return FULL;
        }
        text = longer;
        return text.length();
    }

    private static int question(Model model, String name, int argument) {
        switch (name) {
            case "occurrences":
                return model.occurrences();
            case "next":
                return model.next(argument);
            case "apart":
                return model.apart();
            case "covered":
                return model.covered();
            case "period":
                return model.period();
            case "border":
                return model.border(argument);
            case "periods":
                return model.periods();
            case "greatestEnd":
                return model.greatestEnd(argument);
            case "leastRotation":
                return model.leastRotation();
            case "factors":
                return model.factors();
            case "factor":
                return model.factor(argument);
            case "rotationsFound":
                return model.rotationsFound();
            case "overlap":
                return model.overlap();
            default:
                throw new IllegalArgumentException(name);
        }
    }
}
