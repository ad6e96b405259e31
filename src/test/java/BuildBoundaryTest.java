/** The boundary cases that promises 13 to 19, and 22 for them, name: a test for each sentence. */
public final class BuildBoundaryTest {
    private static final int NONE = TwoWaySearcher.NONE;
    private static final int BAD_ARG = TwoWaySearcher.BAD_ARG;
    private static final String ZEROS = "0".repeat(16);
    private static final int[] NOT_ORDERS = {
        -1, 2, -2, 3, 16, 256, 257, 65536, 1 << 30, Integer.MAX_VALUE, Integer.MIN_VALUE, Integer.MIN_VALUE + 1,
    };
    private static final Due due = new Due();

    public static void main(String[] args) {
        periodLeast();
        periodOfNothing();
        borderOfTheFirstLetters();
        borderOutOfRange();
        periodsFewestAndMost();
        periodsOfNothing();
        greatestEndFirstAndLast();
        greatestEndTurned();
        greatestEndTurnedBeginning();
        greatestEndBadOrder();
        greatestEndOfNothing();
        greatestEndTestsTheOrderFirst();
        leastRotationLeastPlace();
        leastRotationOfNothing();
        factorsFewestAndMost();
        factorsOfNothing();
        factorFirst();
        factorNone();
        due.end();
    }

    private static Run run(String pattern) {
        return new Run(due, pattern, "");
    }

    private static void periodLeast() {
        due.sentence("Promise 13: The least period of the pattern");
        run("1").due("period()", 1);
        run("11").due("period()", 1);
        run(ZEROS).due("period()", 1);
        run("0101010101010101").due("period()", 2);
        run("0".repeat(15) + "1").due("period()", 16);
        run("1" + "0".repeat(14) + "1").due("period()", 15);
        run("0120120120120120").due("period()", 3);
    }

    private static void periodOfNothing() {
        due.sentence("Promise 13: NONE if m is 0.");
        run("").due("period()", NONE);
        run("0").due("period()", 1).then("scrap()").due("period()", NONE);
    }

    private static void borderOfTheFirstLetters() {
        due.sentence("Promise 14: The length of the longest border of the pattern's first k letters");
        run("0").due("border(1)", 0);
        run("0012001").due("border(1)", 0).due("border(2)", 1).due("border(3)", 0).due("border(6)", 2)
            .due("border(7)", 3);
        Run x = run(ZEROS);
        for (int k = 1; k <= 16; k++) {
            x.due("border(" + k + ")", k - 1);
        }
    }

    private static void borderOutOfRange() {
        due.sentence("Promise 14: NONE if k is not 1 to m.");
        String[] patterns = {"", "0", "00", "0".repeat(15), ZEROS};
        for (String pattern : patterns) {
            int m = pattern.length();
            int[] outside = {
                0, -1, -m, m + 1, m + 2, 17, 18, 256, Integer.MAX_VALUE, Integer.MIN_VALUE, Integer.MIN_VALUE + 1,
            };
            for (int k : outside) {
                run(pattern).due("border(" + k + ")", NONE);
            }
        }
        run("00").due("border(1)", 0).due("border(2)", 1);
        run(ZEROS).then("scrap()").then("pattern(0)").due("border(1)", 0).due("border(2)", NONE);
    }

    private static void periodsFewestAndMost() {
        due.sentence("Promise 15: How many periods the pattern has.");
        run("1").due("periods()", 1);
        run("12").due("periods()", 1);
        run("11").due("periods()", 2);
        run(ZEROS).due("periods()", 16);
        run("0".repeat(15) + "1").due("periods()", 1);
        run("1" + "0".repeat(14) + "1").due("periods()", 2);
    }

    private static void periodsOfNothing() {
        due.sentence("Promise 22: periods .. answer 0 if m is 0");
        run("").due("periods()", 0);
        run("0").then("scrap()").due("periods()", 0);
    }

    private static void greatestEndFirstAndLast() {
        due.sentence("Promise 16: The place at which the greatest end of the pattern (of its ends that are not empty)"
            + " begins, in the order of a dictionary (order 0)");
        run("0").due("greatestEnd(0)", 0);
        run("20").due("greatestEnd(0)", 0);
        run("02").due("greatestEnd(0)", 1);
        run("0".repeat(15) + "1").due("greatestEnd(0)", 15);
        run("1" + "0".repeat(15)).due("greatestEnd(0)", 0);
        run(ZEROS).due("greatestEnd(0)", 0);
        run("2102").due("greatestEnd(0)", 0);
    }

    private static void greatestEndTurned() {
        due.sentence("Promise 16: or in that order with the letters in the order 2, 1, 0 (order 1)");
        run("2").due("greatestEnd(1)", 0);
        run("02").due("greatestEnd(1)", 0);
        run("20").due("greatestEnd(1)", 1);
        run("21").due("greatestEnd(1)", 1);
        run("10").due("greatestEnd(1)", 1);
        run("2".repeat(15) + "1").due("greatestEnd(1)", 15);
        run("1" + "2".repeat(15)).due("greatestEnd(1)", 0);
    }

    private static void greatestEndTurnedBeginning() {
        due.sentence("Promise 16: there too a beginning of a word comes before it");
        run("00").due("greatestEnd(1)", 0);
        run(ZEROS).due("greatestEnd(1)", 0);
        run("2".repeat(16)).due("greatestEnd(1)", 0);
        run("0120").due("greatestEnd(1)", 0);
        run("2020").due("greatestEnd(1)", 1);
    }

    private static void greatestEndBadOrder() {
        due.sentence("Promise 16: BAD_ARG if order is not 0 or 1");
        for (int order : NOT_ORDERS) {
            run("012").due("greatestEnd(" + order + ")", BAD_ARG);
            run(ZEROS).due("greatestEnd(" + order + ")", BAD_ARG);
        }
        run("012").due("greatestEnd(0)", 2).due("greatestEnd(1)", 0);
    }

    private static void greatestEndOfNothing() {
        due.sentence("Promise 16: NONE if m is 0.");
        run("").due("greatestEnd(0)", NONE).due("greatestEnd(1)", NONE);
        run("0").then("scrap()").due("greatestEnd(0)", NONE).due("greatestEnd(1)", NONE);
    }

    private static void greatestEndTestsTheOrderFirst() {
        due.sentence("Promise 22: In greatestEnd order is tested first: BAD_ARG .. whatever m is; then NONE if m is 0.");
        String[] patterns = {"", "0", "012", ZEROS};
        for (String pattern : patterns) {
            for (int order : NOT_ORDERS) {
                run(pattern).due("greatestEnd(" + order + ")", BAD_ARG);
            }
        }
        run("").due("greatestEnd(0)", NONE).due("greatestEnd(1)", NONE);
    }

    private static void leastRotationLeastPlace() {
        due.sentence("Promise 17: The least place at which the least rotation of the pattern begins");
        run("2").due("leastRotation()", 0);
        run("01").due("leastRotation()", 0);
        run("10").due("leastRotation()", 1);
        run(ZEROS).due("leastRotation()", 0);
        run("0101").due("leastRotation()", 0);
        run("1010").due("leastRotation()", 1);
        run("1".repeat(15) + "0").due("leastRotation()", 15);
        run("1201201201201200").due("leastRotation()", 14);
        run("2012012012012012").due("leastRotation()", 1);
    }

    private static void leastRotationOfNothing() {
        due.sentence("Promise 17: NONE if m is 0.");
        run("").due("leastRotation()", NONE);
        run("10").then("scrap()").due("leastRotation()", NONE);
    }

    private static void factorsFewestAndMost() {
        due.sentence("Promise 18: The number of factors of the pattern.");
        run("2").due("factors()", 1);
        run("0".repeat(15) + "1").due("factors()", 1);
        run(ZEROS).due("factors()", 16);
        run("2222211111000000").due("factors()", 16);
        run("1" + "0".repeat(14) + "1").due("factors()", 2);
    }

    private static void factorsOfNothing() {
        due.sentence("Promise 22: factors .. answer 0 if m is 0");
        run("").due("factors()", 0);
        run("0").then("scrap()").due("factors()", 0);
    }

    private static void factorFirst() {
        due.sentence("Promise 19: The length of factor i of the pattern (0 is the first)");
        run("2").due("factor(0)", 1);
        run("12012").due("factor(0)", 2).due("factor(1)", 3);
        run("0".repeat(15) + "1").due("factor(0)", 16);
        run("1" + "0".repeat(14) + "1").due("factor(0)", 1).due("factor(1)", 15);
        Run x = run(ZEROS);
        for (int i = 0; i < 16; i++) {
            x.due("factor(" + i + ")", 1);
        }
    }

    private static void factorNone() {
        due.sentence("Promise 19: NONE if there is none.");
        noFactor("", 0);
        noFactor("0", 1);
        noFactor("12012", 2);
        noFactor("0".repeat(15) + "1", 1);
        noFactor(ZEROS, 16);
        run("00").then("scrap()").due("factor(0)", NONE);
    }

    private static void noFactor(String pattern, int factors) {
        int[] outside = {
            -1, -2, -factors - 1, factors, factors + 1, 16, 17, 256, Integer.MAX_VALUE, Integer.MIN_VALUE,
            Integer.MIN_VALUE + 1,
        };
        for (int i : outside) {
            run(pattern).due("factor(" + i + ")", NONE);
        }
    }
}
