/** Promises 9 to 12, 20 and 21: the questions about the pattern and the text. */
public final class FindingTest {
    private static final int NONE = TwoWaySearcher.NONE;
    private static final Due due = new Due();

    public static void main(String[] args) {
        occurrences();
        next();
        apart();
        covered();
        rotationsFound();
        overlap();
        staleLettersDoNotCount();
        due.end();
    }

    private static void occurrences() {
        occurrencesOf("00", "00000", 4);
        occurrencesOf("010", "0101010", 3);
        occurrencesOf("012", "012", 1);
        occurrencesOf("012", "01", 0);
        occurrencesOf("012", "", 0);
        occurrencesOf("2", "0121", 1);
        occurrencesOf("", "000", 0);
        occurrencesOf("", "", 0);
        occurrencesOf("0000000000000000", "0".repeat(48), 33);
        occurrencesOf("01", "2222201", 1);
    }

    private static void occurrencesOf(String pattern, String text, int want) {
        due.equal("occurrences() of " + pattern + " in " + text, Make.searcher(pattern, text).occurrences(), want);
    }

    private static void next() {
        nextOf("010", "0101010", 0, 0);
        nextOf("010", "0101010", 1, 2);
        nextOf("010", "0101010", 2, 2);
        nextOf("010", "0101010", 4, 4);
        nextOf("010", "0101010", 5, NONE);
        nextOf("010", "0101010", 7, NONE);
        nextOf("010", "0101010", 48, NONE);
        nextOf("010", "0101010", -1, 0);
        nextOf("010", "0101010", Integer.MIN_VALUE, 0);
        nextOf("010", "0101010", Integer.MAX_VALUE, NONE);
        nextOf("22", "0101010", 0, NONE);
        nextOf("010", "01", 0, NONE);
        nextOf("", "000", 0, NONE);
        nextOf("", "000", 3, NONE);
        nextOf("", "", 0, NONE);
        nextOf("2", "0".repeat(47) + "2", 47, 47);
        nextOf("2", "0".repeat(47) + "2", 48, NONE);
    }

    private static void nextOf(String pattern, String text, int from, int want) {
        due.equal("next(" + from + ") of " + pattern + " in " + text, Make.searcher(pattern, text).next(from), want);
    }

    private static void apart() {
        apartOf("00", "00000", 2);
        apartOf("00", "000000", 3);
        apartOf("010", "0101010", 2);
        apartOf("010", "01010", 1);
        apartOf("01", "010101", 3);
        apartOf("0120", "0120120120", 2);
        apartOf("1", "0000", 0);
        apartOf("", "0000", 0);
        apartOf("0", "0".repeat(48), 48);
        apartOf("0000000000000000", "0".repeat(48), 3);
        apartOf("0000000000000000", "0".repeat(47), 2);
    }

    private static void apartOf(String pattern, String text, int want) {
        due.equal("apart() of " + pattern + " in " + text, Make.searcher(pattern, text).apart(), want);
    }

    private static void covered() {
        coveredOf("010", "0101010", 7);
        coveredOf("010", "2010201012", 6);
        coveredOf("010", "20102010102", 8);
        coveredOf("00", "0010001", 5);
        coveredOf("012", "0120", 3);
        coveredOf("012", "2012", 3);
        coveredOf("1", "0000", 0);
        coveredOf("", "0000", 0);
        coveredOf("", "", 0);
        coveredOf("0000000000000000", "0".repeat(48), 48);
    }

    private static void coveredOf(String pattern, String text, int want) {
        due.equal("covered() of " + pattern + " in " + text, Make.searcher(pattern, text).covered(), want);
    }

    private static void rotationsFound() {
        rotationsFoundOf("012", "01201", 3);
        rotationsFoundOf("012", "0120", 2);
        rotationsFoundOf("012", "201", 1);
        rotationsFoundOf("012", "021021", 0);
        rotationsFoundOf("012", "01", 0);
        rotationsFoundOf("0101", "20101", 2);
        rotationsFoundOf("000", "000", 3);
        rotationsFoundOf("1", "1", 1);
        rotationsFoundOf("", "012", 0);
        rotationsFoundOf("", "", 0);
        rotationsFoundOf("0000000000000001", "0".repeat(15) + "1" + "0".repeat(15), 16);
        rotationsFoundOf("01", "0".repeat(46) + "10", 2);
    }

    private static void rotationsFoundOf(String pattern, String text, int want) {
        due.equal("rotationsFound() of " + pattern + " in " + text,
            Make.searcher(pattern, text).rotationsFound(), want);
    }

    private static void overlap() {
        overlapOf("0121", "2201", 2);
        overlapOf("0102", "2010", 3);
        overlapOf("0101", "2010", 3);
        overlapOf("012", "2012", 3);
        overlapOf("01201", "012", 3);
        overlapOf("000", "0000", 3);
        overlapOf("000", "00", 2);
        overlapOf("012", "120", 1);
        overlapOf("012", "121", 0);
        overlapOf("012", "", 0);
        overlapOf("", "012", 0);
        overlapOf("", "", 0);
        overlapOf("0000000000000001", "0".repeat(48), 15);
    }

    private static void overlapOf(String pattern, String text, int want) {
        due.equal("overlap() of " + pattern + " and " + text, Make.searcher(pattern, text).overlap(), want);
    }

    private static void staleLettersDoNotCount() {
        TwoWaySearcher x = Make.searcher("012", "012012");
        x.erase();
        Make.feed(x, "01");
        due.equal("after erase, 012 in 01: occurrences()", x.occurrences(), 0);
        due.equal("after erase, 012 in 01: next(0)", x.next(0), NONE);
        due.equal("after erase, 012 in 01: covered()", x.covered(), 0);
        due.equal("after erase, 012 in 01: rotationsFound()", x.rotationsFound(), 0);
        due.equal("after erase, 012 in 01: overlap()", x.overlap(), 2);
        x.scrap();
        Make.spell(x, "1");
        due.equal("after scrap, 1 in 01: next(0)", x.next(0), 1);
        due.equal("after scrap, 1 in 01: rotationsFound()", x.rotationsFound(), 1);
        due.equal("after scrap, 1 and 01: overlap()", x.overlap(), 1);
    }
}
