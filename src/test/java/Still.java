import java.util.function.Consumer;

/** Whether some calls leave the pattern and the text as they were. */
final class Still {
    private Still() {
    }

    // Reading the text needs other patterns, and reading the pattern another text: hence two objects.
    static void holds(Due due, String after, Consumer<TwoWaySearcher> calls, String pattern, String text) {
        String told = "after " + after + ", pattern '" + pattern + "' and text '" + text + "': ";
        TwoWaySearcher x = Make.searcher(pattern, text);
        calls.accept(x);
        due.equal(told + "patternLength()", x.patternLength(), pattern.length());
        due.equal(told + "textLength()", x.textLength(), text.length());
        due.holds(told + "the text is the same", text.equals(readText(x)));

        TwoWaySearcher y = Make.searcher(pattern, text);
        calls.accept(y);
        y.erase();
        y.feedPattern();
        due.holds(told + "the pattern is the same", pattern.equals(readText(y)));
    }

    private static String readText(TwoWaySearcher x) {
        StringBuilder text = new StringBuilder("?".repeat(x.textLength()));
        for (int c = 0; c <= 2; c++) {
            x.scrap();
            x.pattern(c);
            int place = x.next(0);
            for (int k = 0; k < 48 && place >= 0; k++) {
                text.setCharAt(place, (char) ('0' + c));
                place = x.next(place + 1);
            }
        }
        return text.toString();
    }
}
