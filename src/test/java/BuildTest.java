/** Promises 13 to 19, and what promise 22 says of them: the questions about the pattern alone. */
public final class BuildTest {
    private static final int NONE = TwoWaySearcher.NONE;
    private static final int BAD_ARG = TwoWaySearcher.BAD_ARG;
    private static final Due due = new Due();

    public static void main(String[] args) {
        period();
        border();
        periods();
        greatestEnd();
        leastRotation();
        factors();
        staleLettersDoNotCount();
        due.end();
    }

    private static void period() {
        periodOf("", NONE);
        periodOf("2", 1);
        periodOf("0000", 1);
        periodOf("01010", 2);
        periodOf("0120", 3);
        periodOf("0001", 4);
        periodOf("0000000000000001", 16);
        periodOf("0120120120120120", 3);
    }

    private static void periodOf(String pattern, int want) {
        due.equal("period() of " + pattern, Make.searcher(pattern, "").period(), want);
    }

    private static void border() {
        borderOf("01010", 1, 0);
        borderOf("01010", 2, 0);
        borderOf("01010", 3, 1);
        borderOf("01010", 4, 2);
        borderOf("01010", 5, 3);
        borderOf("01010", 6, NONE);
        borderOf("01010", 0, NONE);
        borderOf("01010", -1, NONE);
        borderOf("01010", Integer.MAX_VALUE, NONE);
        borderOf("01010", Integer.MIN_VALUE, NONE);
        borderOf("0010012", 5, 2);
        borderOf("0010012", 6, 3);
        borderOf("0010012", 7, 0);
        borderOf("000", 3, 2);
        borderOf("", 0, NONE);
        borderOf("", 1, NONE);
        borderOf("1111111111111111", 16, 15);
        borderOf("1111111111111111", 17, NONE);
    }

    private static void borderOf(String pattern, int k, int want) {
        due.equal("border(" + k + ") of " + pattern, Make.searcher(pattern, "").border(k), want);
    }

    private static void periods() {
        periodsOf("", 0);
        periodsOf("1", 1);
        periodsOf("0000", 4);
        periodsOf("01010", 3);
        periodsOf("0120", 2);
        periodsOf("012", 1);
        periodsOf("2222222222222222", 16);
    }

    private static void periodsOf(String pattern, int want) {
        due.equal("periods() of " + pattern, Make.searcher(pattern, "").periods(), want);
    }

    private static void greatestEnd() {
        greatestEndOf("0120", 0, 2);
        greatestEndOf("0120", 1, 0);
        greatestEndOf("2102", 0, 0);
        greatestEndOf("2102", 1, 2);
        greatestEndOf("0202", 0, 1);
        greatestEndOf("0202", 1, 0);
        greatestEndOf("2020", 1, 1);
        greatestEndOf("2212", 0, 0);
        greatestEndOf("0100", 1, 2);
        greatestEndOf("0102", 1, 0);
        greatestEndOf("000", 0, 0);
        greatestEndOf("000", 1, 0);
        greatestEndOf("1", 0, 0);
        greatestEndOf("1", 1, 0);
        greatestEndOf("", 0, NONE);
        greatestEndOf("", 1, NONE);
        int[] badOrders = {2, -1, 3, Integer.MAX_VALUE, Integer.MIN_VALUE};
        for (int order : badOrders) {
            greatestEndOf("0120", order, BAD_ARG);
            greatestEndOf("", order, BAD_ARG);
        }
    }

    private static void greatestEndOf(String pattern, int order, int want) {
        due.equal("greatestEnd(" + order + ") of " + pattern, Make.searcher(pattern, "").greatestEnd(order), want);
    }

    private static void leastRotation() {
        leastRotationOf("", NONE);
        leastRotationOf("2", 0);
        leastRotationOf("012", 0);
        leastRotationOf("201", 1);
        leastRotationOf("120", 2);
        leastRotationOf("1010", 1);
        leastRotationOf("0000", 0);
        leastRotationOf("0100", 2);
        leastRotationOf("0000000000000001", 0);
        leastRotationOf("1000000000000000", 1);
        leastRotationOf("0010010000000000", 6);
    }

    private static void leastRotationOf(String pattern, int want) {
        due.equal("leastRotation() of " + pattern, Make.searcher(pattern, "").leastRotation(), want);
    }

    private static void factors() {
        factorsOf("");
        factorsOf("1", 1);
        factorsOf("012", 3);
        factorsOf("210", 1, 1, 1);
        factorsOf("0101", 2, 2);
        factorsOf("00102", 5);
        factorsOf("1011010", 1, 3, 2, 1);
        factorsOf("0110010", 3, 3, 1);
        factorsOf("0000000000000001", 16);
        factorsOf("0000000000000000", 1, 1, 1, 1, 1, 1, 1, 1, 1, 1, 1, 1, 1, 1, 1, 1);
    }

    private static void factorsOf(String pattern, int... lengths) {
        TwoWaySearcher x = Make.searcher(pattern, "");
        due.equal("factors() of " + pattern, x.factors(), lengths.length);
        for (int i = 0; i < lengths.length; i++) {
            due.equal("factor(" + i + ") of " + pattern, x.factor(i), lengths[i]);
        }
        int[] noFactors = {lengths.length, lengths.length + 1, -1, Integer.MAX_VALUE, Integer.MIN_VALUE};
        for (int i : noFactors) {
            due.equal("factor(" + i + ") of " + pattern, x.factor(i), NONE);
        }
    }

    private static void staleLettersDoNotCount() {
        TwoWaySearcher x = Make.searcher("0120120120120120", "");
        x.scrap();
        Make.spell(x, "01");
        due.equal("after scrap, 01: period()", x.period(), 2);
        due.equal("after scrap, 01: periods()", x.periods(), 1);
        due.equal("after scrap, 01: border(3)", x.border(3), NONE);
        due.equal("after scrap, 01: greatestEnd(0)", x.greatestEnd(0), 1);
        due.equal("after scrap, 01: leastRotation()", x.leastRotation(), 0);
        due.equal("after scrap, 01: factors()", x.factors(), 1);
        due.equal("after scrap, 01: factor(0)", x.factor(0), 2);
    }
}
