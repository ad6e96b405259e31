/** The boundary cases that the document names under "The public face" and "Terms": a test for each sentence. */
public final class TermsBoundaryTest {
    private static final int NONE = TwoWaySearcher.NONE;
    private static final int BAD_ARG = TwoWaySearcher.BAD_ARG;
    private static final int FULL = TwoWaySearcher.FULL;
    private static final int[] FAR = {
        Integer.MIN_VALUE, Integer.MIN_VALUE + 1, -49, -17, -1, 0, 1, 2, 3, 15, 16, 17, 47, 48, 49,
        Integer.MAX_VALUE - 48, Integer.MAX_VALUE - 1, Integer.MAX_VALUE,
    };
    private static final String[] QUESTIONS = {
        "feedPattern()", "patternLength()", "textLength()", "occurrences()", "apart()", "covered()", "period()",
        "periods()", "leastRotation()", "factors()", "rotationsFound()", "overlap()", "scrap()", "erase()",
    };
    private static final String[] WITH_ARGUMENT = {"pattern", "feed", "next", "border", "greatestEnd", "factor"};
    private static final String[] PATTERNS = {"", "0", "21", "0".repeat(16), "0120120120120120"};
    private static final String[] TEXTS = {"", "0", "12", "0".repeat(47), "0".repeat(48), "012".repeat(16)};

    private static final Due due = new Due();

    public static void main(String[] args) {
        letters();
        patternRoom();
        textRoom();
        placesBeginAtZero();
        aBeginningComesBefore();
        firstPlaceWhereTheyDiffer();
        firstAndLastOccurrence();
        everyLetterOfAnOccurrence();
        emptyPatternHasNoOccurrences();
        leastPeriod();
        wholeLengthIsAPeriod();
        everyPlaceOfAPeriod();
        borderIsShorter();
        emptyBorder();
        rotationGoesRound();
        lyndonIsNotEmpty();
        lyndonBeforeItsEnds();
        equalFactors();
        noCallThrows();
        refusedCallsAnswerTheirCode();
        refusedCallsChangeNothing();
        constants();
        due.end();
    }

    private static Run run(String pattern, String text) {
        return new Run(due, pattern, text);
    }

    private static void letters() {
        due.sentence("Terms: LETTERS are 0, 1, 2.");
        run("", "").due("pattern(-1)", BAD_ARG).due("pattern(0)", 1).due("pattern(1)", 2).due("pattern(2)", 3)
            .due("pattern(3)", BAD_ARG);
        run("", "").due("feed(-1)", BAD_ARG).due("feed(0)", 1).due("feed(1)", 2).due("feed(2)", 3)
            .due("feed(3)", BAD_ARG);
        run("012", "222012").due("next(0)", 3);
    }

    private static void patternRoom() {
        due.sentence("Terms: The PATTERN has m letters, 0 <= m <= 16");
        run("", "").due("patternLength()", 0);
        run("0".repeat(15), "").due("patternLength()", 15).due("pattern(1)", 16).due("patternLength()", 16)
            .due("pattern(1)", FULL).due("patternLength()", 16);
    }

    private static void textRoom() {
        due.sentence("Terms: the TEXT n letters, 0 <= n <= 48");
        run("", "").due("textLength()", 0);
        run("", "0".repeat(47)).due("textLength()", 47).due("feed(1)", 48).due("textLength()", 48)
            .due("feed(1)", FULL).due("textLength()", 48);
    }

    private static void placesBeginAtZero() {
        due.sentence("Terms: the places of a word begin at 0");
        run("2", "2").due("next(0)", 0).due("next(1)", NONE).due("greatestEnd(0)", 0).due("leastRotation()", 0);
        run("10", "").due("greatestEnd(0)", 0).due("greatestEnd(1)", 1).due("leastRotation()", 1);
    }

    private static void aBeginningComesBefore() {
        due.sentence("Terms: a word that is a beginning of another one comes before it");
        run("00", "").due("greatestEnd(0)", 0).due("greatestEnd(1)", 0).due("factors()", 2);
        run("2102", "").due("greatestEnd(0)", 0);
        run("2".repeat(16), "").due("greatestEnd(0)", 0).due("factors()", 16);
        run("010", "").due("factors()", 2).due("factor(0)", 2).due("factor(1)", 1);
    }

    private static void firstPlaceWhereTheyDiffer() {
        due.sentence("Terms: else the word with the smaller letter at the first place where they differ comes first");
        run("0211", "").due("leastRotation()", 0).due("greatestEnd(0)", 1).due("greatestEnd(1)", 0);
        run("2021", "").due("greatestEnd(0)", 2).due("greatestEnd(1)", 1);
        run("0201", "").due("leastRotation()", 2).due("factors()", 2).due("factor(0)", 2);
        run("0000000200000001", "").due("leastRotation()", 8).due("factor(0)", 8).due("factor(1)", 8);
    }

    private static void firstAndLastOccurrence() {
        due.sentence("Terms: An OCCURRENCE is a place i of the text, 0 <= i <= n - m");
        run("01", "0122").due("occurrences()", 1).due("next(0)", 0);
        run("01", "2201").due("occurrences()", 1).due("next(0)", 2);
        run("010", "2201").due("occurrences()", 0).due("next(0)", NONE);
        run("012", "012").due("occurrences()", 1).due("next(0)", 0);
        run("012", "01").due("occurrences()", 0).due("apart()", 0).due("covered()", 0).due("next(0)", NONE);
        run("0", "").due("occurrences()", 0).due("next(0)", NONE);
        run("1201201201201201", "0".repeat(32) + "1201201201201201").due("occurrences()", 1).due("next(0)", 32);
        run("1201201201201201", "0".repeat(33) + "120120120120120").due("occurrences()", 0).due("next(0)", NONE);
        // What an earlier text held behind the end of this one is not the text.
        run("012", "012").then("erase()").then("feed(0)").then("feed(1)").due("occurrences()", 0);
    }

    private static void everyLetterOfAnOccurrence() {
        due.sentence("Terms: such that the text's letters at i, i + 1, .., i + m - 1 are the pattern");
        run("0".repeat(16), "1" + "0".repeat(15)).due("occurrences()", 0);
        run("0".repeat(16), "0".repeat(15) + "1").due("occurrences()", 0);
        run("0".repeat(16), "0".repeat(16)).due("occurrences()", 1);
        run("000", "010").due("occurrences()", 0);
    }

    private static void emptyPatternHasNoOccurrences() {
        due.sentence("Terms: Only a pattern with m >= 1 has occurrences.");
        String[] texts = {"", "0", "0".repeat(48)};
        for (String text : texts) {
            run("", text).due("occurrences()", 0).due("next(0)", NONE).due("apart()", 0).due("covered()", 0);
        }
        run("", "012").due("next(3)", NONE).due("next(-1)", NONE);
        run("1", "012").due("occurrences()", 1);
    }

    private static void leastPeriod() {
        due.sentence("Terms: A PERIOD of a word of length m >= 1 is a number q, 1 <= q <= m");
        run("2", "").due("period()", 1).due("periods()", 1);
        run("00", "").due("period()", 1).due("periods()", 2);
        run("1".repeat(16), "").due("period()", 1).due("periods()", 16);
    }

    private static void wholeLengthIsAPeriod() {
        due.sentence("Terms: (so m is one)");
        run("0", "").due("period()", 1).due("periods()", 1);
        run("01", "").due("period()", 2).due("periods()", 1);
        run("010", "").due("period()", 2).due("periods()", 2);
        run("0".repeat(15) + "1", "").due("period()", 16).due("periods()", 1);
    }

    private static void everyPlaceOfAPeriod() {
        due.sentence("Terms: the letters at the places i and i + q are the same for every i from 0 to m - 1 - q");
        run("1000", "").due("period()", 4).due("periods()", 1);
        run("0001", "").due("period()", 4).due("periods()", 1);
        run("0120", "").due("period()", 3).due("periods()", 2);
        run("01201", "").due("period()", 3).due("periods()", 2);
        run("01202", "").due("period()", 5).due("periods()", 1);
        run("11201", "").due("period()", 4).due("periods()", 2);
    }

    private static void borderIsShorter() {
        due.sentence("Terms: A BORDER of a word is a word, shorter than it, that is both a beginning and an end of it");
        run("1".repeat(16), "").due("border(1)", 0).due("border(2)", 1).due("border(16)", 15);
        run("0100", "").due("border(3)", 1).due("border(4)", 1);
        run("0110", "").due("border(3)", 0).due("border(4)", 1);
        // A border may be longer than half of its word: its two places then overlap.
        run("01010", "").due("border(5)", 3);
    }

    private static void emptyBorder() {
        due.sentence("Terms: the empty word is a border of every word that is not empty");
        run("0", "").due("border(1)", 0);
        run("012", "").due("border(1)", 0).due("border(2)", 0).due("border(3)", 0);
        run("0".repeat(15) + "1", "").due("border(16)", 0);
        run("", "").due("border(0)", NONE);
        run("012", "").due("border(0)", NONE);
    }

    private static void rotationGoesRound() {
        due.sentence("Terms: A ROTATION .. goes to its end and then from its begin to before that place.");
        run("012", "012").due("rotationsFound()", 1);
        run("012", "120").due("rotationsFound()", 1);
        run("012", "201").due("rotationsFound()", 1);
        run("012", "122").due("rotationsFound()", 0);
        run("012", "200").due("rotationsFound()", 0);
        run("100", "").due("leastRotation()", 1);
        run("010", "").due("leastRotation()", 2);
        run("0".repeat(14) + "10", "").due("leastRotation()", 15);
        run("0".repeat(14) + "12", "2" + "0".repeat(14) + "1").due("rotationsFound()", 1);
    }

    private static void lyndonIsNotEmpty() {
        due.sentence("Terms: A word that is not empty is LYNDON if ..");
        run("", "").due("factors()", 0).due("factor(0)", NONE);
        run("1", "").due("factors()", 1).due("factor(0)", 1).due("factor(1)", NONE);
        run("01", "").due("factors()", 1).due("factor(0)", 2).due("factor(1)", NONE);
    }

    private static void lyndonBeforeItsEnds() {
        due.sentence("Terms: it comes before each of its ends that is not empty and not the whole word");
        run("2", "").due("factor(0)", 1);
        run("02", "").due("factor(0)", 2);
        run("20", "").due("factor(0)", 1);
        run("0010", "").due("factor(0)", 3).due("factor(1)", 1);
        run("0100", "").due("factor(0)", 2);
        run("0".repeat(15) + "1", "").due("factor(0)", 16);
        run("1".repeat(15) + "0", "").due("factor(0)", 1).due("factor(15)", 1).due("factors()", 16);
    }

    private static void equalFactors() {
        due.sentence("Terms: of which none comes before the next one (w1 >= w2 >= ..)");
        run("00", "").due("factors()", 2);
        run("0101", "").due("factors()", 2).due("factor(0)", 2).due("factor(1)", 2);
        run("10", "").due("factors()", 2);
        run("01", "").due("factors()", 1);
        run("01020102", "").due("factors()", 2).due("factor(0)", 4).due("factor(1)", 4);
    }

    private static void noCallThrows() {
        due.sentence("Terms: No call ever throws.");
        for (String pattern : PATTERNS) {
            for (String text : TEXTS) {
                everyCall(pattern, text);
            }
        }
    }

    // Each call has an object of its own, so that the state is the one at the edge.
    private static void everyCall(String pattern, String text) {
        for (String question : QUESTIONS) {
            run(pattern, text).then(question);
        }
        for (String name : WITH_ARGUMENT) {
            for (int argument : FAR) {
                run(pattern, text).then(name + "(" + argument + ")");
            }
        }
    }

    private static void refusedCallsAnswerTheirCode() {
        due.sentence("Terms: A refused call answers the code named");
        String full = "0".repeat(16);
        run("", "").due("pattern(3)", -1).due("feed(3)", -1).due("greatestEnd(2)", -1);
        run(full, "0".repeat(48)).due("pattern(0)", -2).due("feed(0)", -2).due("feedPattern()", -2);
        run("", "").due("next(0)", -4).due("period()", -4).due("border(1)", -4).due("greatestEnd(0)", -4)
            .due("leastRotation()", -4).due("factor(0)", -4);
    }

    private static void refusedCallsChangeNothing() {
        due.sentence("Terms: and changes nothing.");
        String full = "0120120120120120";
        String fullText = "0120".repeat(12);
        int[] badLetters = {-1, 3, 4, Integer.MIN_VALUE, Integer.MAX_VALUE};
        for (int c : badLetters) {
            Still.holds(due, "pattern(" + c + ")", x -> x.pattern(c), "01", "12");
            Still.holds(due, "pattern(" + c + ")", x -> x.pattern(c), full, "12");
            Still.holds(due, "feed(" + c + ")", x -> x.feed(c), "01", "12");
            Still.holds(due, "feed(" + c + ")", x -> x.feed(c), "01", fullText);
            Still.holds(due, "greatestEnd(" + c + ")", x -> x.greatestEnd(c), "01", "12");
        }
        Still.holds(due, "pattern(1)", x -> x.pattern(1), full, "12");
        Still.holds(due, "feed(1)", x -> x.feed(1), "01", fullText);
        Still.holds(due, "feedPattern()", TwoWaySearcher::feedPattern, "1", fullText);
        Still.holds(due, "feedPattern()", TwoWaySearcher::feedPattern, full, "1".repeat(33));
        Still.holds(due, "feedPattern()", TwoWaySearcher::feedPattern, full, fullText);
        Still.holds(due, "next(48)", x -> x.next(48), "01", "12");
        Still.holds(due, "border(3)", x -> x.border(3), "01", "12");
        Still.holds(due, "factor(2)", x -> x.factor(2), "01", "12");
        Still.holds(due, "period()", TwoWaySearcher::period, "", "12");
        Still.holds(due, "leastRotation()", TwoWaySearcher::leastRotation, "", "12");
        Still.holds(due, "greatestEnd(0)", x -> x.greatestEnd(0), "", "12");
    }

    private static void constants() {
        due.sentence("Terms: BAD_ARG = -1: An argument is out of its range.");
        due.equal("BAD_ARG", BAD_ARG, -1);
        due.sentence("Terms: FULL = -2: The pattern or the text is full.");
        due.equal("FULL", FULL, -2);
        due.sentence("Terms: NONE = -4: There is no such thing.");
        due.equal("NONE", NONE, -4);
    }
}
