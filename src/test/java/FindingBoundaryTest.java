/** The boundary cases that promises 9 to 12, 20 and 21, and 22 for the last two, name: a test for each sentence. */
public final class FindingBoundaryTest {
    private static final int NONE = TwoWaySearcher.NONE;
    private static final String ZEROS = "0".repeat(48);
    private static final Due due = new Due();

    public static void main(String[] args) {
        fewestAndMostOccurrences();
        nextFromOrGreater();
        nextFarFrom();
        nextNone();
        apartWithoutAPlaceInCommon();
        apartFewestAndMost();
        coveredFromFirstToLastPlace();
        coveredInSomeOccurrence();
        rotationsFromFirstToLastPlace();
        rotationsAtSomePlace();
        rotationsThatAreTheSameWord();
        rotationsOfNothing();
        overlapLongest();
        overlapOfTheWholePattern();
        overlapOfTheWholeText();
        overlapOfNothing();
        due.end();
    }

    private static Run run(String pattern, String text) {
        return new Run(due, pattern, text);
    }

    private static void fewestAndMostOccurrences() {
        due.sentence("Promise 9: The number of occurrences.");
        run("1", ZEROS).due("occurrences()", 0);
        run("1", "").due("occurrences()", 0);
        run("0", ZEROS).due("occurrences()", 48);
        run("0".repeat(16), ZEROS).due("occurrences()", 33);
        run("0".repeat(16), "0".repeat(16)).due("occurrences()", 1);
        run("0".repeat(16), "0".repeat(15)).due("occurrences()", 0);
        run("010", "01010").due("occurrences()", 2);
    }

    private static void nextFromOrGreater() {
        due.sentence("Promise 10: The least occurrence that is from or greater");
        run("01", "0120122").due("next(0)", 0).due("next(1)", 3).due("next(3)", 3).due("next(4)", NONE);
        run("2", ZEROS.substring(1) + "2").due("next(0)", 47).due("next(46)", 47).due("next(47)", 47)
            .due("next(48)", NONE);
        run("0".repeat(16), ZEROS).due("next(31)", 31).due("next(32)", 32).due("next(33)", NONE);
    }

    private static void nextFarFrom() {
        due.sentence("Promise 10: from or greater, for any from");
        int[] below = {-1, -2, -3, -48, -49, Integer.MIN_VALUE, Integer.MIN_VALUE + 1, Integer.MIN_VALUE + 48};
        for (int from : below) {
            run("01", "01201").due("next(" + from + ")", 0);
            run("01", "22201").due("next(" + from + ")", 3);
        }
        int[] above = {5, 6, 47, 48, 49, 256, 65536, Integer.MAX_VALUE, Integer.MAX_VALUE - 1, Integer.MAX_VALUE - 2};
        for (int from : above) {
            run("01", "01201").due("next(" + from + ")", NONE);
        }
    }

    private static void nextNone() {
        due.sentence("Promise 10: NONE if there is none.");
        run("2", "").due("next(0)", NONE).due("next(-1)", NONE);
        run("2", ZEROS).due("next(0)", NONE).due("next(-1)", NONE);
        run("012", "01").due("next(0)", NONE);
        run("", "01").due("next(0)", NONE);
        run("0", "01").due("next(0)", 0).due("next(1)", NONE);
    }

    private static void apartWithoutAPlaceInCommon() {
        due.sentence("Promise 11: of which no two have a place of the text in common");
        run("010", "010010").due("occurrences()", 2).due("apart()", 2);
        run("010", "01010").due("occurrences()", 2).due("apart()", 1);
        run("00", "000").due("apart()", 1);
        run("00", "0000").due("apart()", 2);
        run("0".repeat(16), "0".repeat(31)).due("apart()", 1);
        run("0".repeat(16), "0".repeat(32)).due("apart()", 2);
    }

    private static void apartFewestAndMost() {
        due.sentence("Promise 11: The greatest number of occurrences");
        run("1", ZEROS).due("apart()", 0);
        run("1", "").due("apart()", 0);
        run("0", "0").due("apart()", 1);
        run("0", ZEROS).due("apart()", 48);
        run("0".repeat(16), ZEROS).due("apart()", 3);
        run("00", "0000000").due("apart()", 3);
        // Of five that overlap in a row the second and the fourth are not the most.
        run("010", "01010101010").due("apart()", 3);
    }

    private static void coveredFromFirstToLastPlace() {
        due.sentence("Promise 12: i to i + m - 1 for an occurrence i");
        run("1", "010").due("covered()", 1);
        run("12", "0120").due("covered()", 2);
        run("12", "12").due("covered()", 2);
        run("12", "0012").due("covered()", 2);
        run("12", "1200").due("covered()", 2);
        run("0120120120120121", "2".repeat(32) + "0120120120120121").due("covered()", 16);
    }

    private static void coveredInSomeOccurrence() {
        due.sentence("Promise 12: The number of places of the text that lie in some occurrence");
        run("1", ZEROS).due("covered()", 0);
        run("1", "").due("covered()", 0);
        run("0", ZEROS).due("covered()", 48);
        run("0".repeat(16), ZEROS).due("covered()", 48);
        run("010", "01010").due("covered()", 5);
        run("010", "010010").due("covered()", 6);
        run("010", "0102010").due("covered()", 6);
    }

    private static void rotationsFromFirstToLastPlace() {
        due.sentence("Promise 20: beginning at the places 0 to m - 1");
        String pattern = "0000000000000012";
        for (int place = 0; place < 16; place++) {
            run(pattern, pattern.substring(place) + pattern.substring(0, place)).due("rotationsFound()", 1);
        }
        run(pattern, pattern + pattern).due("rotationsFound()", 16);
        run(pattern, pattern + pattern.substring(0, 14)).due("rotationsFound()", 15);
        run("2", "2").due("rotationsFound()", 1);
    }

    private static void rotationsAtSomePlace() {
        due.sentence("Promise 20: occur as words in the text, at some place");
        run("01", "1022").due("rotationsFound()", 1);
        run("01", "2210").due("rotationsFound()", 1);
        run("01", "2".repeat(46) + "10").due("rotationsFound()", 1);
        run("01", "2".repeat(47) + "1").due("rotationsFound()", 0);
        run("01", "01010101").due("rotationsFound()", 2);
        run("012", "12").due("rotationsFound()", 0);
        run("012", "").due("rotationsFound()", 0);
        run("00", "0").due("rotationsFound()", 0);
    }

    private static void rotationsThatAreTheSameWord() {
        due.sentence("Promise 20: rotations that are the same word count each");
        run("0".repeat(16), ZEROS).due("rotationsFound()", 16);
        run("00", "00").due("rotationsFound()", 2);
        run("0101", "0101").due("rotationsFound()", 2);
        run("0101", "01010").due("rotationsFound()", 4);
    }

    private static void rotationsOfNothing() {
        due.sentence("Promise 22: rotationsFound .. answer 0 if m is 0");
        run("", "").due("rotationsFound()", 0);
        run("", "0").due("rotationsFound()", 0);
        run("", ZEROS).due("rotationsFound()", 0);
        run("012", "012").then("scrap()").due("rotationsFound()", 0);
    }

    private static void overlapLongest() {
        due.sentence("Promise 21: The length of the longest beginning of the pattern that is an end of the text");
        run("0012", "2100").due("overlap()", 2);
        run("0012", "2001").due("overlap()", 3);
        run("0012", "2010").due("overlap()", 1);
        run("0012", "0012" + "1").due("overlap()", 0);
        run("0".repeat(15) + "1", ZEROS).due("overlap()", 15);
        run("1", ZEROS).due("overlap()", 0);
    }

    private static void overlapOfTheWholePattern() {
        due.sentence("Promise 21: it may be the whole pattern");
        run("2", "02").due("overlap()", 1);
        run("012", "2012").due("overlap()", 3);
        run("012", "012").due("overlap()", 3);
        run("0".repeat(16), ZEROS).due("overlap()", 16);
    }

    private static void overlapOfTheWholeText() {
        due.sentence("Promise 21: or the whole text");
        run("012", "0").due("overlap()", 1);
        run("012", "01").due("overlap()", 2);
        run("0".repeat(15) + "1", "0".repeat(15)).due("overlap()", 15);
        run("012", "").due("overlap()", 0);
        run("0".repeat(16), "").due("overlap()", 0);
    }

    private static void overlapOfNothing() {
        due.sentence("Promise 22: overlap answer 0 if m is 0");
        run("", "").due("overlap()", 0);
        run("", "0").due("overlap()", 0);
        run("", ZEROS).due("overlap()", 0);
        run("012", "012").then("scrap()").due("overlap()", 0);
    }
}
