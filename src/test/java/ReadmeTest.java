/** The calls that README.md shows under "Use", in their order and with the answers it tells. */
public final class ReadmeTest {
    private static final int NONE = TwoWaySearcher.NONE;
    private static final int BAD_ARG = TwoWaySearcher.BAD_ARG;
    private static final Due due = new Due();

    public static void main(String[] args) {
        due.sentence("README.md, Use");
        Run x = new Run(due, "", "");
        build(x);
        find(x);
        lookAtThePattern(x);
        due.end();
    }

    private static void build(Run x) {
        x.due("pattern(0)", 1).due("pattern(1)", 2).due("pattern(0)", 3);
        x.due("feedPattern()", 3).due("feed(1)", 4).due("feed(0)", 5).due("feed(2)", 6).due("feed(0)", 7);
        x.due("feed(7)", BAD_ARG);
    }

    private static void find(Run x) {
        x.due("occurrences()", 2).due("next(1)", 2).due("next(3)", NONE).due("apart()", 1).due("covered()", 5);
        x.due("rotationsFound()", 1).due("overlap()", 1);
    }

    private static void lookAtThePattern(Run x) {
        x.due("period()", 2).due("periods()", 2).due("border(3)", 1);
        x.due("greatestEnd(0)", 1).due("greatestEnd(1)", 0).due("leastRotation()", 2);
        x.due("factors()", 2).due("factor(0)", 2).due("factor(2)", NONE);
    }
}
