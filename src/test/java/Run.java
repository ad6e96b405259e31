import java.lang.reflect.InvocationTargetException;

/** A run of calls on one object. A call is given as it is written, so that what is told is what was called. */
final class Run {
    private final Due due;
    private final TwoWaySearcher x;
    private final StringBuilder told;

    Run(Due due, String pattern, String text) {
        this.due = due;
        x = Make.searcher(pattern, text);
        told = new StringBuilder("pattern '" + pattern + "', text '" + text + "':");
    }

    /** Makes the call, whatever it answers. */
    Run then(String call) {
        answer(call);
        told.append(' ').append(call).append(',');
        return this;
    }

    /** Makes the call, and holds its answer against the one that is due. */
    Run due(String call, int want) {
        due.equal(told + " " + call, answer(call), want);
        return this;
    }

    int answer(String call) {
        int open = call.indexOf('(');
        String name = call.substring(0, open);
        String argument = call.substring(open + 1, call.length() - 1);
        try {
            return argument.isEmpty() ? without(name) : with(name, Integer.parseInt(argument));
        } catch (InvocationTargetException thrown) {
            due.tell(told + " " + call + " threw " + thrown.getCause());
            return Integer.MIN_VALUE;
        } catch (ReflectiveOperationException none) {
            throw new IllegalArgumentException(call, none);
        }
    }

    // What a void call answers is 0 here.
    private int without(String name) throws ReflectiveOperationException {
        Object answer = TwoWaySearcher.class.getMethod(name).invoke(x);
        return answer == null ? 0 : (Integer) answer;
    }

    private int with(String name, int argument) throws ReflectiveOperationException {
        return (Integer) TwoWaySearcher.class.getMethod(name, int.class).invoke(x, argument);
    }
}
