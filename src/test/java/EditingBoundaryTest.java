/** The boundary cases that promises 1 to 8, and 22 for feedPattern, name: a test for each sentence. */
public final class EditingBoundaryTest {
    private static final int NONE = TwoWaySearcher.NONE;
    private static final int BAD_ARG = TwoWaySearcher.BAD_ARG;
    private static final int FULL = TwoWaySearcher.FULL;
    // Among them such as would be letters if only their low bits, or their size without the sign, were looked at.
    private static final int[] NOT_LETTERS = {
        -1, 3, -2, 4, 5, 16, 48, '0', '1', '2', 128, 256, 257, 65536, 65538, 1 << 24, 1 << 30, -255, -256, -65536,
        Integer.MAX_VALUE, Integer.MIN_VALUE, Integer.MIN_VALUE + 1, Integer.MIN_VALUE + 2,
    };
    private static final String FULL_PATTERN = "0120120120120120";
    private static final String FULL_TEXT = "012".repeat(16);

    private static final Due due = new Due();

    public static void main(String[] args) {
        newObject();
        patternOfNoLetter();
        patternFull();
        patternTestsTheLetterFirst();
        patternAnswersTheNewLength();
        scrapEmpties();
        feedOfNoLetter();
        feedFull();
        feedTestsTheLetterFirst();
        feedAnswersTheNewLength();
        feedPatternFull();
        feedPatternJustFits();
        feedPatternAnswersTheNewLength();
        feedPatternOfNothing();
        eraseEmpties();
        patternLengthAtItsEdges();
        textLengthAtItsEdges();
        due.end();
    }

    private static Run run(String pattern, String text) {
        return new Run(due, pattern, text);
    }

    private static void newObject() {
        due.sentence("Promise 1: Pattern and text are empty.");
        run("", "").due("patternLength()", 0).due("textLength()", 0).due("occurrences()", 0).due("next(0)", NONE)
            .due("apart()", 0).due("covered()", 0).due("period()", NONE).due("border(0)", NONE)
            .due("border(1)", NONE).due("periods()", 0).due("greatestEnd(0)", NONE).due("greatestEnd(1)", NONE)
            .due("leastRotation()", NONE).due("factors()", 0).due("factor(0)", NONE).due("rotationsFound()", 0)
            .due("overlap()", 0).due("feedPattern()", 0);
        run("", "").due("pattern(0)", 1);
        run("", "").due("feed(0)", 1);
    }

    private static void patternOfNoLetter() {
        due.sentence("Promise 2: c not 0 to 2 answers BAD_ARG");
        for (int c : NOT_LETTERS) {
            run("", "").due("pattern(" + c + ")", BAD_ARG).due("patternLength()", 0);
            run("0".repeat(15), "").due("pattern(" + c + ")", BAD_ARG).due("patternLength()", 15);
        }
        run("", "").due("pattern(0)", 1).due("pattern(2)", 2);
    }

    private static void patternFull() {
        due.sentence("Promise 2: m is 16 answers FULL");
        for (int c = 0; c <= 2; c++) {
            String call = "pattern(" + c + ")";
            run(FULL_PATTERN, "").due(call, FULL).due(call, FULL).due("patternLength()", 16);
            run("0".repeat(15), "").due(call, 16).due(call, FULL);
        }
        // A full text is no reason to refuse.
        run("", FULL_TEXT).due("pattern(0)", 1);
    }

    private static void patternTestsTheLetterFirst() {
        due.sentence("Promise 2: Tested in this order");
        for (int c : NOT_LETTERS) {
            run(FULL_PATTERN, "").due("pattern(" + c + ")", BAD_ARG);
        }
    }

    private static void patternAnswersTheNewLength() {
        due.sentence("Promise 2: Otherwise the new m.");
        Run x = run("", "00");
        for (int m = 1; m <= 16; m++) {
            x.due("pattern(" + m % 3 + ")", m);
        }
        run("0".repeat(15), "0".repeat(15) + "2").due("pattern(2)", 16).due("occurrences()", 1);
    }

    private static void scrapEmpties() {
        due.sentence("Promise 3: Empties the pattern.");
        String[] patterns = {"", "1", FULL_PATTERN};
        for (String pattern : patterns) {
            run(pattern, "0120").then("scrap()").due("patternLength()", 0).due("textLength()", 4)
                .due("occurrences()", 0).due("period()", NONE).due("factors()", 0).due("overlap()", 0)
                .due("pattern(2)", 1).due("period()", 1).due("next(0)", 2);
        }
        Run x = run(FULL_PATTERN, "").then("scrap()").then("scrap()");
        for (int m = 1; m <= 16; m++) {
            x.due("pattern(1)", m);
        }
        x.due("pattern(1)", FULL).due("period()", 1);
    }

    private static void feedOfNoLetter() {
        due.sentence("Promise 4: c not 0 to 2 answers BAD_ARG");
        for (int c : NOT_LETTERS) {
            run("", "").due("feed(" + c + ")", BAD_ARG).due("textLength()", 0);
            run("", "0".repeat(47)).due("feed(" + c + ")", BAD_ARG).due("textLength()", 47);
        }
        run("", "").due("feed(0)", 1).due("feed(2)", 2);
    }

    private static void feedFull() {
        due.sentence("Promise 4: n is 48 answers FULL");
        for (int c = 0; c <= 2; c++) {
            String call = "feed(" + c + ")";
            run("", FULL_TEXT).due(call, FULL).due(call, FULL).due("textLength()", 48);
            run("", "0".repeat(47)).due(call, 48).due(call, FULL);
        }
        // A full pattern is no reason to refuse.
        run(FULL_PATTERN, "0".repeat(16)).due("feed(0)", 17);
    }

    private static void feedTestsTheLetterFirst() {
        due.sentence("Promise 4: Tested in this order");
        for (int c : NOT_LETTERS) {
            run("", FULL_TEXT).due("feed(" + c + ")", BAD_ARG);
        }
    }

    private static void feedAnswersTheNewLength() {
        due.sentence("Promise 4: Otherwise the new n.");
        Run x = run("12", "");
        for (int n = 1; n <= 48; n++) {
            x.due("feed(" + n % 3 + ")", n);
        }
        run("2", "0".repeat(47)).due("feed(2)", 48).due("next(0)", 47);
    }

    private static void feedPatternFull() {
        due.sentence("Promise 5: FULL if the text would have more than 48 letters.");
        for (int m = 1; m <= 16; m++) {
            String pattern = FULL_PATTERN.substring(0, m);
            int oneTooMany = 49 - m;
            run(pattern, "2".repeat(oneTooMany)).due("feedPattern()", FULL).due("textLength()", oneTooMany);
            run(pattern, FULL_TEXT).due("feedPattern()", FULL).due("textLength()", 48);
        }
    }

    private static void feedPatternJustFits() {
        due.sentence("Promise 5: .. more than 48 letters (48 are not more)");
        for (int m = 1; m <= 16; m++) {
            String pattern = FULL_PATTERN.substring(0, m);
            run(pattern, "2".repeat(48 - m)).due("feedPattern()", 48).due("textLength()", 48)
                .due("next(" + (48 - m) + ")", 48 - m).due("feedPattern()", FULL);
        }
    }

    private static void feedPatternAnswersTheNewLength() {
        due.sentence("Promise 5: Otherwise the new n.");
        run("0", "").due("feedPattern()", 1).due("textLength()", 1).due("occurrences()", 1);
        run("21", "0").due("feedPattern()", 3).due("textLength()", 3).due("next(0)", 1).due("patternLength()", 2);
        run(FULL_PATTERN, "").due("feedPattern()", 16).due("feedPattern()", 32).due("feedPattern()", 48)
            .due("occurrences()", 3).due("next(1)", 16).due("next(17)", 32).due("patternLength()", 16);
    }

    private static void feedPatternOfNothing() {
        due.sentence("Promise 22: feedPattern with an empty pattern answers n and changes nothing");
        String[] texts = {"", "1", "0".repeat(47), FULL_TEXT};
        for (String text : texts) {
            run("", text).due("feedPattern()", text.length()).due("textLength()", text.length())
                .due("patternLength()", 0);
            Still.holds(due, "feedPattern()", TwoWaySearcher::feedPattern, "", text);
        }
        // Letters of a scrapped pattern are not the pattern.
        run(FULL_PATTERN, "1").then("scrap()").due("feedPattern()", 1).due("textLength()", 1);
    }

    private static void eraseEmpties() {
        due.sentence("Promise 6: Empties the text.");
        String[] texts = {"", "0", FULL_TEXT};
        for (String text : texts) {
            run("01", text).then("erase()").due("textLength()", 0).due("patternLength()", 2).due("occurrences()", 0)
                .due("next(0)", NONE).due("apart()", 0).due("covered()", 0).due("rotationsFound()", 0)
                .due("overlap()", 0).due("feedPattern()", 2).due("occurrences()", 1);
        }
        Run x = run("", FULL_TEXT).then("erase()").then("erase()");
        for (int n = 1; n <= 48; n++) {
            x.due("feed(1)", n);
        }
        x.due("feed(1)", FULL);
    }

    private static void patternLengthAtItsEdges() {
        due.sentence("Promise 7: m.");
        run("", FULL_TEXT).due("patternLength()", 0);
        run("0", "").due("patternLength()", 1);
        run(FULL_PATTERN, "0").due("patternLength()", 16).then("pattern(0)").due("patternLength()", 16)
            .then("scrap()").due("patternLength()", 0).then("pattern(7)").due("patternLength()", 0);
    }

    private static void textLengthAtItsEdges() {
        due.sentence("Promise 8: n.");
        run(FULL_PATTERN, "").due("textLength()", 0);
        run("", "0").due("textLength()", 1);
        run("0", FULL_TEXT).due("textLength()", 48).then("feed(0)").due("textLength()", 48).then("feedPattern()")
            .due("textLength()", 48).then("erase()").due("textLength()", 0).then("feed(7)").due("textLength()", 0);
    }
}
