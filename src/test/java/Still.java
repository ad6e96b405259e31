import java.util.function.Consumer;

/** Whether some calls leave the pattern and the text as they were. */
final class Still {
    private static final String NO_LETTERS = ".".repeat(48);

    private Still() {
    }

    // Reading the text needs other patterns, and reading the pattern another text: hence two objects.
    static void holds(Due due, String after, Consumer<TwoWaySearcher> calls, String pattern, String text) {
        String told = "after " + after + ", pattern '" + pattern + "' and text '" + text + "': ";
        TwoWaySearcher x = Make.searcher(pattern, text);
        calls.accept(x);
        due.equal(told + "patternLength()", x.patternLength(), pattern.length());
        due.equal(told + "textLength()", x.textLength(), text.length());
        due.holds(told + "the text is the same", written(text).equals(readText(x)));

        TwoWaySearcher y = Make.searcher(pattern, text);
        calls.accept(y);
        y.erase();
        y.feedPattern();
        due.holds(told + "the pattern is the same", written(pattern).equals(readText(y)));
    }

    // Asks next alone, so that a wrong textLength does not hide what the text is.
    private static String readText(TwoWaySearcher x) {
        StringBuilder text = new StringBuilder(NO_LETTERS);
        for (int c = 0; c <= 2; c++) {
            x.scrap();
            x.pattern(c);
            int place = x.next(0);
            while (place >= 0 && place < NO_LETTERS.length()) {
                text.setCharAt(place, (char) ('0' + c));
                int next = x.next(place + 1);
                place = next > place ? next : -1;
            }
        }
        return text.toString();
    }

    private static String written(String letters) {
        return letters + NO_LETTERS.substring(letters.length());
    }
}
