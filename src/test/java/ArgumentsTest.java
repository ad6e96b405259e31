/** Arguments far out of range: no call throws, and a refused call or a question changes nothing. */
public final class ArgumentsTest {
    private static final int[] FAR = {
        Integer.MIN_VALUE, Integer.MIN_VALUE + 1, -65536, -256, -4, -3, -2, -1, 3, 4, 15, 16, 17, 47, 48, 49,
        256, 257, 65536, Integer.MAX_VALUE - 1, Integer.MAX_VALUE,
    };
    private static final String[] PATTERNS = {"", "0", "2", "01", "0120120120120120", "0000000000000000"};
    private static final String[] TEXTS = {"", "0", "012", "0120".repeat(12), "0".repeat(48), "0".repeat(46) + "2"};
    private static final Due due = new Due();

    public static void main(String[] args) {
        for (String pattern : PATTERNS) {
            for (String text : TEXTS) {
                farArguments(pattern, text);
                Still.holds(due, "letters out of range", ArgumentsTest::refusedLetters, pattern, text);
                Still.holds(due, "questions", ArgumentsTest::askAll, pattern, text);
                if (pattern.length() == 16) {
                    Still.holds(due, "a full pattern", x -> x.pattern(1), pattern, text);
                }
                if (text.length() == 48) {
                    Still.holds(due, "a full text", x -> x.feed(1), pattern, text);
                }
                if (pattern.length() + text.length() > 48) {
                    Still.holds(due, "a pattern too long to be fed", TwoWaySearcher::feedPattern, pattern, text);
                }
            }
        }
        due.end();
    }

    private static void farArguments(String pattern, String text) {
        TwoWaySearcher x = Make.searcher(pattern, text);
        Model model = new Model(pattern, text);
        for (int argument : FAR) {
            String of = "(" + argument + ") of " + pattern + " in " + text;
            due.equal("pattern" + of, x.pattern(argument), TwoWaySearcher.BAD_ARG);
            due.equal("feed" + of, x.feed(argument), TwoWaySearcher.BAD_ARG);
            due.equal("next" + of, x.next(argument), model.next(argument));
            due.equal("border" + of, x.border(argument), model.border(argument));
            if (argument < 0 || argument >= pattern.length()) {
                due.equal("factor" + of, x.factor(argument), TwoWaySearcher.NONE);
            }
            due.equal("greatestEnd" + of, x.greatestEnd(argument), TwoWaySearcher.BAD_ARG);
        }
    }

    private static void refusedLetters(TwoWaySearcher x) {
        for (int c : FAR) {
            x.pattern(c);
            x.feed(c);
        }
    }

    private static void askAll(TwoWaySearcher x) {
        x.patternLength();
        x.textLength();
        x.occurrences();
        x.apart();
        x.covered();
        x.period();
        x.periods();
        x.leastRotation();
        x.factors();
        x.rotationsFound();
        x.overlap();
        for (int argument = -1; argument <= 2; argument++) {
            x.next(argument);
            x.border(argument);
            x.greatestEnd(argument);
            x.factor(argument);
        }
    }
}
