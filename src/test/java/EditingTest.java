/** Promises 1 to 8, and what promise 22 says of feedPattern. */
public final class EditingTest {
    private static final String FULL_PATTERN = "0120120120120120";
    private static final Due due = new Due();

    public static void main(String[] args) {
        newObject();
        patternAppends();
        patternRefuses();
        scrapEmptiesThePatternAlone();
        feedAppends();
        feedRefuses();
        feedPatternAppends();
        feedPatternRefuses();
        feedPatternOfNothing();
        eraseEmptiesTheTextAlone();
        objectsAreApart();
        due.end();
    }

    private static void newObject() {
        TwoWaySearcher x = new TwoWaySearcher();
        due.equal("new: patternLength()", x.patternLength(), 0);
        due.equal("new: textLength()", x.textLength(), 0);
        due.equal("new: occurrences()", x.occurrences(), 0);
        due.equal("new: apart()", x.apart(), 0);
        due.equal("new: covered()", x.covered(), 0);
        due.equal("new: period()", x.period(), TwoWaySearcher.NONE);
    }

    private static void patternAppends() {
        TwoWaySearcher x = new TwoWaySearcher();
        due.equal("pattern(2)", x.pattern(2), 1);
        due.equal("pattern(0)", x.pattern(0), 2);
        due.equal("pattern(1)", x.pattern(1), 3);
        due.equal("patternLength()", x.patternLength(), 3);
        due.equal("pattern leaves the text: textLength()", x.textLength(), 0);
        Make.feed(x, "1201");
        due.equal("pattern 201 in 1201: next(0)", x.next(0), 1);
    }

    private static void patternRefuses() {
        TwoWaySearcher x = new TwoWaySearcher();
        due.equal("pattern(3)", x.pattern(3), TwoWaySearcher.BAD_ARG);
        due.equal("pattern(-1)", x.pattern(-1), TwoWaySearcher.BAD_ARG);
        due.equal("refused: patternLength()", x.patternLength(), 0);
        for (int k = 1; k <= 16; k++) {
            due.equal("pattern, letter " + k, x.pattern((k - 1) % 3), k);
        }
        due.equal("full: pattern(0)", x.pattern(0), TwoWaySearcher.FULL);
        due.equal("full: pattern(2)", x.pattern(2), TwoWaySearcher.FULL);
        due.equal("full: pattern(3), the argument is tested first", x.pattern(3), TwoWaySearcher.BAD_ARG);
        due.equal("full: pattern(-1), the argument is tested first", x.pattern(-1), TwoWaySearcher.BAD_ARG);
        due.equal("full: patternLength()", x.patternLength(), 16);
        Make.feed(x, FULL_PATTERN);
        due.equal("full and refused: next(0)", x.next(0), 0);
    }

    private static void scrapEmptiesThePatternAlone() {
        TwoWaySearcher x = Make.searcher(FULL_PATTERN, "0011");
        x.scrap();
        due.equal("scrap: patternLength()", x.patternLength(), 0);
        due.equal("scrap: textLength()", x.textLength(), 4);
        due.equal("scrap: pattern(1)", x.pattern(1), 1);
        due.equal("scrap: occurrences() of 1 in 0011", x.occurrences(), 2);
        x.scrap();
        x.scrap();
        due.equal("scrap twice: patternLength()", x.patternLength(), 0);
        due.equal("scrap twice: occurrences()", x.occurrences(), 0);
    }

    private static void feedAppends() {
        TwoWaySearcher x = new TwoWaySearcher();
        due.equal("feed(1)", x.feed(1), 1);
        due.equal("feed(2)", x.feed(2), 2);
        due.equal("feed(0)", x.feed(0), 3);
        due.equal("textLength()", x.textLength(), 3);
        due.equal("feed leaves the pattern: patternLength()", x.patternLength(), 0);
        Make.spell(x, "20");
        due.equal("pattern 20 in 120: next(0)", x.next(0), 1);
    }

    private static void feedRefuses() {
        TwoWaySearcher x = Make.searcher("01", "");
        due.equal("feed(3)", x.feed(3), TwoWaySearcher.BAD_ARG);
        due.equal("feed(-1)", x.feed(-1), TwoWaySearcher.BAD_ARG);
        due.equal("refused: textLength()", x.textLength(), 0);
        for (int k = 1; k <= 48; k++) {
            due.equal("feed, letter " + k, x.feed((k - 1) % 2), k);
        }
        due.equal("full: feed(0)", x.feed(0), TwoWaySearcher.FULL);
        due.equal("full: feed(2)", x.feed(2), TwoWaySearcher.FULL);
        due.equal("full: feed(3), the argument is tested first", x.feed(3), TwoWaySearcher.BAD_ARG);
        due.equal("full: feed(-1), the argument is tested first", x.feed(-1), TwoWaySearcher.BAD_ARG);
        due.equal("full: textLength()", x.textLength(), 48);
        due.equal("full: occurrences()", x.occurrences(), 24);
        due.equal("full: next(45)", x.next(45), 46);
    }

    private static void feedPatternAppends() {
        TwoWaySearcher x = Make.searcher("021", "0");
        due.equal("feedPattern()", x.feedPattern(), 4);
        due.equal("feedPattern() again", x.feedPattern(), 7);
        due.equal("textLength()", x.textLength(), 7);
        due.equal("patternLength()", x.patternLength(), 3);
        due.equal("021 in 0021021: occurrences()", x.occurrences(), 2);
        due.equal("021 in 0021021: next(0)", x.next(0), 1);
        due.equal("021 in 0021021: next(2)", x.next(2), 4);
    }

    private static void feedPatternRefuses() {
        TwoWaySearcher x = Make.searcher(FULL_PATTERN, "");
        due.equal("feedPattern() to 16", x.feedPattern(), 16);
        due.equal("feedPattern() to 32", x.feedPattern(), 32);
        due.equal("feedPattern() to 48, which just fits", x.feedPattern(), 48);
        due.equal("feedPattern() on a full text", x.feedPattern(), TwoWaySearcher.FULL);
        due.equal("refused: textLength()", x.textLength(), 48);
        due.equal("refused: occurrences()", x.occurrences(), 3);

        TwoWaySearcher y = Make.searcher("11", "0".repeat(47));
        due.equal("feedPattern() one letter too long", y.feedPattern(), TwoWaySearcher.FULL);
        due.equal("one letter too long: textLength()", y.textLength(), 47);
        due.equal("one letter too long: overlap()", y.overlap(), 0);
        due.equal("one letter too long: feed(0)", y.feed(0), 48);
        due.equal("no letter was kept: overlap()", y.overlap(), 0);
    }

    private static void feedPatternOfNothing() {
        TwoWaySearcher x = new TwoWaySearcher();
        due.equal("both empty: feedPattern()", x.feedPattern(), 0);
        Make.feed(x, "012");
        due.equal("empty pattern: feedPattern()", x.feedPattern(), 3);
        due.equal("empty pattern: textLength()", x.textLength(), 3);
        Make.feed(x, "0".repeat(45));
        due.equal("empty pattern, full text: feedPattern()", x.feedPattern(), 48);
    }

    private static void eraseEmptiesTheTextAlone() {
        TwoWaySearcher x = Make.searcher("10", "1".repeat(48));
        x.erase();
        due.equal("erase: textLength()", x.textLength(), 0);
        due.equal("erase: patternLength()", x.patternLength(), 2);
        due.equal("erase: occurrences()", x.occurrences(), 0);
        due.equal("erase: overlap()", x.overlap(), 0);
        due.equal("erase: feed(1)", x.feed(1), 1);
        due.equal("erase: feed(0)", x.feed(0), 2);
        due.equal("erase: next(0)", x.next(0), 0);
        due.equal("erase: occurrences() of 10 in 10", x.occurrences(), 1);
        x.erase();
        x.erase();
        due.equal("erase twice: textLength()", x.textLength(), 0);
    }

    private static void objectsAreApart() {
        TwoWaySearcher x = Make.searcher("0", "00");
        TwoWaySearcher y = Make.searcher("12", "121");
        due.equal("x beside y: occurrences()", x.occurrences(), 2);
        due.equal("y beside x: occurrences()", y.occurrences(), 1);
        y.erase();
        y.scrap();
        due.equal("x after y is emptied: textLength()", x.textLength(), 2);
        due.equal("x after y is emptied: patternLength()", x.patternLength(), 1);
    }
}
