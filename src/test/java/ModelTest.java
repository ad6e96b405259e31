import java.util.ArrayList;
import java.util.List;

/** Promises 9 to 21 on many words, each answer held against the model's. */
public final class ModelTest {
    private static final Due due = new Due();
    private static final Row row = new Row(1);

    public static void main(String[] args) {
        allShortPatterns();
        allShortPairs();
        longWords();
        due.end();
    }

    private static void allShortPatterns() {
        for (String pattern : wordsUpTo(9)) {
            compareBuild(Make.searcher(pattern, ""), pattern);
        }
    }

    private static void allShortPairs() {
        List<String> texts = wordsUpTo(7);
        for (String pattern : wordsUpTo(4)) {
            for (String text : texts) {
                compareFinding(Make.searcher(pattern, text), pattern, text);
            }
        }
    }

    private static void longWords() {
        for (int round = 0; round < 20000; round++) {
            int letters = 1 + row.pick(3);
            String pattern = longPattern(row.pick(17), letters);
            String text = longText(row.pick(49), pattern, letters);
            TwoWaySearcher x = Make.searcher(pattern, text);
            compareBuild(x, pattern);
            compareFinding(x, pattern, text);
        }
    }

    // Nearly periodic: words of letters picked one by one have hardly any borders.
    private static String longPattern(int length, int letters) {
        int root = 1 + row.pick(6);
        StringBuilder word = new StringBuilder();
        for (int k = 0; k < length; k++) {
            boolean again = k >= root && row.pick(12) != 0;
            word.append(again ? word.charAt(k - root) : (char) ('0' + row.pick(letters)));
        }
        return word.toString();
    }

    // Put together from ends of the pattern and single letters, so that the pattern comes again and again.
    private static String longText(int length, String pattern, int letters) {
        StringBuilder word = new StringBuilder();
        while (word.length() < length) {
            if (row.pick(4) == 0) {
                word.append(row.pick(letters));
            } else {
                word.append(pattern.substring(row.pick(pattern.length() + 1)));
            }
        }
        word.setLength(length);
        return word.toString();
    }

    private static List<String> wordsUpTo(int length) {
        List<String> words = new ArrayList<>();
        words.add("");
        for (int i = 0; words.get(i).length() < length; i++) {
            for (char letter = '0'; letter <= '2'; letter++) {
                words.add(words.get(i) + letter);
            }
        }
        return words;
    }

    private static void compareBuild(TwoWaySearcher x, String pattern) {
        Model model = new Model(pattern, "");
        String of = " of " + pattern;
        due.equal("patternLength()" + of, x.patternLength(), pattern.length());
        due.equal("period()" + of, x.period(), model.period());
        due.equal("periods()" + of, x.periods(), model.periods());
        due.equal("leastRotation()" + of, x.leastRotation(), model.leastRotation());
        for (int k = -1; k <= 18; k++) {
            due.equal("border(" + k + ")" + of, x.border(k), model.border(k));
        }
        for (int order = -1; order <= 2; order++) {
            due.equal("greatestEnd(" + order + ")" + of, x.greatestEnd(order), model.greatestEnd(order));
        }
        compareFactors(x, model, of);
    }

    private static void compareFactors(TwoWaySearcher x, Model model, String of) {
        int[] lengths = new int[Math.max(0, x.factors())];
        for (int i = 0; i < lengths.length; i++) {
            lengths[i] = x.factor(i);
        }
        due.holds("factors() and factor(i)" + of, model.areFactors(lengths));
        due.equal("factors()" + of, lengths.length, model.factors());
        due.equal("factor(-1)" + of, x.factor(-1), TwoWaySearcher.NONE);
        due.equal("factor(" + lengths.length + ")" + of, x.factor(lengths.length), TwoWaySearcher.NONE);
    }

    private static void compareFinding(TwoWaySearcher x, String pattern, String text) {
        Model model = new Model(pattern, text);
        String of = " of " + pattern + " in " + text;
        due.equal("textLength()" + of, x.textLength(), text.length());
        due.equal("occurrences()" + of, x.occurrences(), model.occurrences());
        due.equal("apart()" + of, x.apart(), model.apart());
        due.equal("covered()" + of, x.covered(), model.covered());
        due.equal("rotationsFound()" + of, x.rotationsFound(), model.rotationsFound());
        due.equal("overlap()" + of, x.overlap(), model.overlap());
        for (int from = -1; from <= text.length() + 1; from++) {
            due.equal("next(" + from + ")" + of, x.next(from), model.next(from));
        }
    }
}
