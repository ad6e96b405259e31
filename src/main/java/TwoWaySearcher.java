public final class TwoWaySearcher {
    public static final int BAD_ARG = -1;
    public static final int FULL = -2;
    public static final int NONE = -4;

    private static final int GREATEST_LETTER = 2;
    private static final int PATTERN_ROOM = 16;
    private static final int TEXT_ROOM = 48;
    private static final int DICTIONARY = 0;
    private static final int LETTERS_TURNED = 1;

    private final int[] word = new int[PATTERN_ROOM];
    private final int[] text = new int[TEXT_ROOM];
    private int m;
    private int n;

    public TwoWaySearcher() {
        m = 0;
        n = 0;
    }

    public int pattern(int c) {
        if (!isLetter(c)) {
            return BAD_ARG;
        }
        if (m >= PATTERN_ROOM) {
            return FULL;
        }
        word[m] = c;
        m++;
        return m;
    }

    public void scrap() {
        m = 0;
    }

    public int feed(int c) {
        if (!isLetter(c)) {
            return BAD_ARG;
        }
        if (n >= TEXT_ROOM) {
            return FULL;
        }
        text[n] = c;
        n++;
        return n;
    }

    public int feedPattern() {
        if (n + m > TEXT_ROOM) {
            return FULL;
        }
        for (int k = 0; k < m; k++) {
            text[n + k] = word[k];
        }
        n += m;
        return n;
    }

    public void erase() {
        n = 0;
    }

    public int patternLength() {
        return m;
    }

    public int textLength() {
        return n;
    }

    public int occurrences() {
        int count = 0;
        for (int place = 0; place < n; place++) {
            if (occursAt(place)) {
                count++;
            }
        }
        return count;
    }

    public int next(int from) {
        int first = from < 0 ? 0 : from;
        for (int place = first; place < n; place++) {
            if (occursAt(place)) {
                return place;
            }
        }
        return NONE;
    }

    public int apart() {
        int count = 0;
        int free = 0;
        // Occurrences all have one length, so taking each as early as it fits gives the most.
        for (int place = 0; place < n; place++) {
            if (place >= free && occursAt(place)) {
                count++;
                free = place + m;
            }
        }
        return count;
    }

    public int covered() {
        int count = 0;
        int coveredBefore = 0;
        for (int place = 0; place < n; place++) {
            if (occursAt(place)) {
                coveredBefore = place + m;
            }
            if (place < coveredBefore) {
                count++;
            }
        }
        return count;
    }

    public int period() {
        for (int q = 1; q <= m; q++) {
            if (isBorder(m - q, m)) {
                return q;
            }
        }
        return NONE;
    }

    public int border(int k) {
        if (k < 1 || k > m) {
            return NONE;
        }
        for (int length = k - 1; length > 0; length--) {
            if (isBorder(length, k)) {
                return length;
            }
        }
        return 0;
    }

    public int periods() {
        int count = 0;
        for (int q = 1; q <= m; q++) {
            if (isBorder(m - q, m)) {
                count++;
            }
        }
        return count;
    }

    public int greatestEnd(int order) {
        if (order != DICTIONARY && order != LETTERS_TURNED) {
            return BAD_ARG;
        }
        if (m == 0) {
            return NONE;
        }
        int greatest = 0;
        for (int begin = 1; begin < m; begin++) {
            if (partComesBefore(greatest, begin, m, order)) {
                greatest = begin;
            }
        }
        return greatest;
    }

    public int leastRotation() {
        if (m == 0) {
            return NONE;
        }
        int least = 0;
        for (int begin = 1; begin < m; begin++) {
            if (rotationComesBefore(begin, least)) {
                least = begin;
            }
        }
        return least;
    }

    public int factors() {
        int count = 0;
        int nextBegin = 0;
        for (int place = 0; place < m; place++) {
            if (place == nextBegin) {
                count++;
                nextBegin = place + longestLyndon(place);
            }
        }
        return count;
    }

    public int factor(int i) {
        int index = 0;
        int nextBegin = 0;
        for (int place = 0; place < m; place++) {
            if (place == nextBegin) {
                int length = longestLyndon(place);
                if (index == i) {
                    return length;
                }
                index++;
                nextBegin = place + length;
            }
        }
        return NONE;
    }

    public int rotationsFound() {
        int count = 0;
        for (int begin = 0; begin < m; begin++) {
            if (rotationOccurs(begin)) {
                count++;
            }
        }
        return count;
    }

    public int overlap() {
        int longest = m < n ? m : n;
        for (int length = longest; length > 0; length--) {
            if (textEndsWithBeginning(length)) {
                return length;
            }
        }
        return 0;
    }

    private static boolean isLetter(int c) {
        return c >= 0 && c <= GREATEST_LETTER;
    }

    private boolean occursAt(int place) {
        return m > 0 && rotationOccursAt(0, place);
    }

    private boolean rotationOccurs(int begin) {
        for (int place = 0; place < n; place++) {
            if (rotationOccursAt(begin, place)) {
                return true;
            }
        }
        return false;
    }

    private boolean rotationOccursAt(int begin, int place) {
        if (place > n - m) {
            return false;
        }
        for (int k = 0; k < m; k++) {
            if (text[place + k] != rotationLetter(begin, k)) {
                return false;
            }
        }
        return true;
    }

    private int rotationLetter(int begin, int k) {
        int place = begin + k;
        return place < m ? word[place] : word[place - m];
    }

    private boolean rotationComesBefore(int first, int second) {
        for (int k = 0; k < m; k++) {
            int a = rotationLetter(first, k);
            int b = rotationLetter(second, k);
            if (a != b) {
                return a < b;
            }
        }
        return false;
    }

    // A word of length m has the period q just when it has a border of length m - q, so this serves both.
    private boolean isBorder(int length, int wordLength) {
        int shift = wordLength - length;
        for (int k = 0; k < length; k++) {
            if (word[k] != word[shift + k]) {
                return false;
            }
        }
        return true;
    }

    // Both parts end before the place end, and begin < laterBegin.
    private boolean partComesBefore(int begin, int laterBegin, int end, int order) {
        int shift = laterBegin - begin;
        for (int place = laterBegin; place < end; place++) {
            int a = word[place - shift];
            int b = word[place];
            if (a != b) {
                return order == DICTIONARY ? a < b : a > b;
            }
        }
        // The later part is then a beginning of the longer one, and so comes before it.
        return false;
    }

    private boolean isLyndon(int begin, int end) {
        for (int laterBegin = begin + 1; laterBegin < end; laterBegin++) {
            if (!partComesBefore(begin, laterBegin, end, DICTIONARY)) {
                return false;
            }
        }
        return true;
    }

    // The first factor of a word is its longest beginning that is Lyndon.
    private int longestLyndon(int begin) {
        for (int end = m; end > begin + 1; end--) {
            if (isLyndon(begin, end)) {
                return end - begin;
            }
        }
        return 1;
    }

    private boolean textEndsWithBeginning(int length) {
        int shift = n - length;
        for (int k = 0; k < length; k++) {
            if (text[shift + k] != word[k]) {
                return false;
            }
        }
        return true;
    }
}
