/** Makes searchers out of written words, so that a test shows its pattern and its text. */
final class Make {
    private Make() {
    }

    static TwoWaySearcher searcher(String pattern, String text) {
        TwoWaySearcher x = new TwoWaySearcher();
        spell(x, pattern);
        feed(x, text);
        return x;
    }

    static void spell(TwoWaySearcher x, String letters) {
        for (char letter : letters.toCharArray()) {
            x.pattern(letter - '0');
        }
    }

    static void feed(TwoWaySearcher x, String letters) {
        for (char letter : letters.toCharArray()) {
            x.feed(letter - '0');
        }
    }
}
