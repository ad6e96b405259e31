import java.util.ArrayList;
import java.util.List;

/**
 * The document's definitions on strings of the letters 0, 1, 2, told as plainly as they stand there
 * and by other means than the class under test, so that one mistake is not made twice.
 */
final class Model {
    private static final int NONE = -4;
    private final String pattern;
    private final String text;
    private final int m;
    private final int n;

    Model(String pattern, String text) {
        this.pattern = pattern;
        this.text = text;
        m = pattern.length();
        n = text.length();
    }

    private boolean occurs(int place) {
        return m >= 1 && place >= 0 && place <= n - m && text.startsWith(pattern, place);
    }

    int occurrences() {
        int count = 0;
        for (int i = 0; i <= n; i++) {
            count += occurs(i) ? 1 : 0;
        }
        return count;
    }

    int next(int from) {
        int found = m == 0 ? -1 : text.indexOf(pattern, from);
        return found < 0 ? NONE : found;
    }

    int apart() {
        int[] most = new int[n + 1];
        for (int i = n - 1; i >= 0; i--) {
            most[i] = most[i + 1];
            if (occurs(i)) {
                most[i] = Math.max(most[i], 1 + most[i + m]);
            }
        }
        return most[0];
    }

    int covered() {
        boolean[] lies = new boolean[n];
        for (int i = 0; i <= n - m; i++) {
            for (int k = i; occurs(i) && k < i + m; k++) {
                lies[k] = true;
            }
        }
        int count = 0;
        for (boolean one : lies) {
            count += one ? 1 : 0;
        }
        return count;
    }

    private boolean hasPeriod(int q) {
        for (int i = 0; i + q <= m - 1; i++) {
            if (pattern.charAt(i) != pattern.charAt(i + q)) {
                return false;
            }
        }
        return true;
    }

    int period() {
        int least = NONE;
        for (int q = m; q >= 1; q--) {
            least = hasPeriod(q) ? q : least;
        }
        return least;
    }

    int periods() {
        int count = 0;
        for (int q = 1; q <= m; q++) {
            count += hasPeriod(q) ? 1 : 0;
        }
        return count;
    }

    int border(int k) {
        if (k < 1 || k > m) {
            return NONE;
        }
        String word = pattern.substring(0, k);
        int longest = 0;
        for (int length = 0; length < k; length++) {
            longest = word.endsWith(word.substring(0, length)) ? length : longest;
        }
        return longest;
    }

    int greatestEnd(int order) {
        if (order != 0 && order != 1) {
            return -1;
        }
        String word = order == 0 ? pattern : pattern.replace('0', 'x').replace('2', '0').replace('x', '2');
        int place = NONE;
        String greatest = "";
        for (int i = 0; i < m; i++) {
            if (word.substring(i).compareTo(greatest) > 0) {
                greatest = word.substring(i);
                place = i;
            }
        }
        return place;
    }

    private String rotation(int place) {
        return pattern.substring(place) + pattern.substring(0, place);
    }

    int leastRotation() {
        int place = NONE;
        for (int i = m - 1; i >= 0; i--) {
            if (place == NONE || rotation(i).compareTo(rotation(place)) <= 0) {
                place = i;
            }
        }
        return place;
    }

    int rotationsFound() {
        int count = 0;
        for (int i = 0; i < m; i++) {
            count += text.contains(rotation(i)) ? 1 : 0;
        }
        return count;
    }

    int overlap() {
        int longest = 0;
        for (int length = 0; length <= m; length++) {
            longest = text.endsWith(pattern.substring(0, length)) ? length : longest;
        }
        return longest;
    }

    /** Whether these lengths cut the pattern into Lyndon words of which none comes before the next: that is one list only. */
    boolean areFactors(int[] lengths) {
        String before = null;
        int begin = 0;
        for (int length : lengths) {
            if (length < 1 || begin + length > m) {
                return false;
            }
            String word = pattern.substring(begin, begin + length);
            if (!isLyndon(word) || before != null && before.compareTo(word) < 0) {
                return false;
            }
            before = word;
            begin += length;
        }
        return begin == m;
    }

    int factors() {
        return factorWords().size();
    }

    int factor(int i) {
        List<String> words = factorWords();
        return i < 0 || i >= words.size() ? NONE : words.get(i).length();
    }

    // Two Lyndon words of which the first comes before the second are one Lyndon word when joined.
    private List<String> factorWords() {
        List<String> words = new ArrayList<>();
        for (int i = m - 1; i >= 0; i--) {
            String word = pattern.substring(i, i + 1);
            while (!words.isEmpty() && word.compareTo(words.get(0)) < 0) {
                word += words.remove(0);
            }
            words.add(0, word);
        }
        return words;
    }

    private static boolean isLyndon(String word) {
        for (int i = 1; i < word.length(); i++) {
            if (word.compareTo(word.substring(i)) >= 0) {
                return false;
            }
        }
        return true;
    }
}
