import java.util.ArrayList;
import java.util.List;

/** Promises 9 to 21 on many words, each answer held against the model's. */
public final class ModelTest {
    private static final Due due = new Due();

    public static void main(String[] args) {
        allShortPatterns();
        allShortPairs();
        longWords();
        due.end();
    }

    private static void allShortPatterns() {
        for (String pattern : wordsUpTo(9)) {
            compareBuild(Make.searcher(pattern, ""), pattern);
        }
    }

    private static void allShortPairs() {
        List<String> texts = wordsUpTo(7);
        for (String pattern : wordsUpTo(4)) {
            for (String text : texts) {
                compareFinding(Make.searcher(pattern, text), pattern, text);
            }
        }
    }

    // Few letters in a row that differ and many that come again, up to the full lengths.
    private static void longWords() {
        long state = 1;
        for (int round = 0; round < 20000; round++) {
            StringBuilder pattern = new StringBuilder();
            StringBuilder text = new StringBuilder();
            state = step(state);
            int root = 1 + pick(state, 6);
            state = step(state);
            int patternLength = pick(state, 17);
            state = step(state);
            int letters = 1 + pick(state, 3);
            for (int k = 0; k < patternLength; k++) {
                state = step(state);
                boolean again = k >= root && pick(state, 12) != 0;
                pattern.append(again ? pattern.charAt(k - root) : (char) ('0' + pick(state / 12, letters)));
            }
            state = step(state);
            int textLength = pick(state, 49);
            while (text.length() < textLength) {
                state = step(state);
                int cut = pick(state, patternLength + 1);
                text.append(pick(state / 17, 4) == 0 ? "" + pick(state / 68, letters) : pattern.substring(cut));
            }
            text.setLength(textLength);
            TwoWaySearcher x = Make.searcher(pattern.toString(), text.toString());
            compareBuild(x, pattern.toString());
            compareFinding(x, pattern.toString(), text.toString());
        }
    }

    // A fixed row of numbers: the test has to be the same at every run.
    private static long step(long state) {
        return state * 6364136223846793005L + 1442695040888963407L;
    }

    private static int pick(long state, int bound) {
        return (int) ((state >>> 33) % bound);
    }

    private static List<String> wordsUpTo(int length) {
        List<String> words = new ArrayList<>();
        words.add("");
        for (int i = 0; words.get(i).length() < length; i++) {
            for (char letter = '0'; letter <= '2'; letter++) {
                words.add(words.get(i) + letter);
            }
        }
        return words;
    }

    private static void compareBuild(TwoWaySearcher x, String pattern) {
        Model model = new Model(pattern, "");
        String of = " of " + pattern;
        due.equal("patternLength()" + of, x.patternLength(), pattern.length());
        due.equal("period()" + of, x.period(), model.period());
        due.equal("periods()" + of, x.periods(), model.periods());
        due.equal("leastRotation()" + of, x.leastRotation(), model.leastRotation());
        for (int k = -1; k <= 18; k++) {
            due.equal("border(" + k + ")" + of, x.border(k), model.border(k));
        }
        for (int order = -1; order <= 2; order++) {
            due.equal("greatestEnd(" + order + ")" + of, x.greatestEnd(order), model.greatestEnd(order));
        }
        compareFactors(x, model, of);
    }

    private static void compareFactors(TwoWaySearcher x, Model model, String of) {
        int[] lengths = new int[Math.max(0, x.factors())];
        for (int i = 0; i < lengths.length; i++) {
            lengths[i] = x.factor(i);
        }
        due.holds("factors() and factor(i)" + of, model.areFactors(lengths));
        due.equal("factor(-1)" + of, x.factor(-1), TwoWaySearcher.NONE);
        due.equal("factor(" + lengths.length + ")" + of, x.factor(lengths.length), TwoWaySearcher.NONE);
    }

    private static void compareFinding(TwoWaySearcher x, String pattern, String text) {
        Model model = new Model(pattern, text);
        String of = " of " + pattern + " in " + text;
        due.equal("textLength()" + of, x.textLength(), text.length());
        due.equal("occurrences()" + of, x.occurrences(), model.occurrences());
        due.equal("apart()" + of, x.apart(), model.apart());
        due.equal("covered()" + of, x.covered(), model.covered());
        due.equal("rotationsFound()" + of, x.rotationsFound(), model.rotationsFound());
        due.equal("overlap()" + of, x.overlap(), model.overlap());
        for (int from = -1; from <= text.length() + 1; from++) {
            due.equal("next(" + from + ")" + of, x.next(from), model.next(from));
        }
    }
}
