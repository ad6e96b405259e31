import java.lang.reflect.Constructor;
import java.lang.reflect.Field;
import java.lang.reflect.Method;
import java.lang.reflect.Modifier;
import java.util.Arrays;
import java.util.TreeSet;

/** The public face of the document and no other member that is not private (LANGUAGE.md, rules 1, 2 and 5). */
public final class FaceTest {
    private static final String[] METHODS = {
        "int pattern(int)", "void scrap()", "int feed(int)", "int feedPattern()", "void erase()",
        "int patternLength()", "int textLength()", "int occurrences()", "int next(int)", "int apart()",
        "int covered()", "int period()", "int border(int)", "int periods()", "int greatestEnd(int)",
        "int leastRotation()", "int factors()", "int factor(int)", "int rotationsFound()", "int overlap()",
    };

    private static final Due due = new Due();

    public static void main(String[] args) {
        constants();
        classAndConstructor();
        methods();
        fields();
        due.end();
    }

    private static void constants() {
        due.equal("BAD_ARG", TwoWaySearcher.BAD_ARG, -1);
        due.equal("FULL", TwoWaySearcher.FULL, -2);
        due.equal("NONE", TwoWaySearcher.NONE, -4);
    }

    private static void classAndConstructor() {
        int modifiers = TwoWaySearcher.class.getModifiers();
        due.holds("the class is public and final", Modifier.isPublic(modifiers) && Modifier.isFinal(modifiers));
        due.equal("nested classes", TwoWaySearcher.class.getDeclaredClasses().length, 0);
        Constructor<?>[] constructors = TwoWaySearcher.class.getDeclaredConstructors();
        due.equal("constructors", constructors.length, 1);
        due.holds("the constructor is public", Modifier.isPublic(constructors[0].getModifiers()));
        due.equal("the constructor's parameters", constructors[0].getParameterCount(), 0);
    }

    private static void methods() {
        TreeSet<String> open = new TreeSet<>();
        TreeSet<String> openNames = new TreeSet<>();
        for (Method method : TwoWaySearcher.class.getDeclaredMethods()) {
            if (!Modifier.isPrivate(method.getModifiers())) {
                due.holds(method + " is public and not static",
                    Modifier.isPublic(method.getModifiers()) && !Modifier.isStatic(method.getModifiers()));
                open.add(written(method));
                openNames.add(method.getName());
            }
        }
        due.holds("the methods are those of the document: " + open, open.equals(new TreeSet<>(Arrays.asList(METHODS))));
        for (Method method : TwoWaySearcher.class.getDeclaredMethods()) {
            due.holds(method + " does not bear a public name",
                !Modifier.isPrivate(method.getModifiers()) || !openNames.contains(method.getName()));
        }
    }

    private static String written(Method method) {
        StringBuilder text = new StringBuilder();
        for (Class<?> type : method.getParameterTypes()) {
            text.append(text.length() == 0 ? "" : ",").append(type.getName());
        }
        return method.getReturnType().getName() + " " + method.getName() + "(" + text + ")";
    }

    private static void fields() {
        TreeSet<String> open = new TreeSet<>();
        for (Field field : TwoWaySearcher.class.getDeclaredFields()) {
            int modifiers = field.getModifiers();
            if (!Modifier.isPrivate(modifiers)) {
                open.add(Modifier.toString(modifiers) + " " + field.getType() + " " + field.getName());
            }
            if (Modifier.isStatic(modifiers)) {
                due.holds(field + " is a constant of int or long", Modifier.isFinal(modifiers)
                    && (field.getType() == int.class || field.getType() == long.class));
            }
        }
        due.holds("the open fields are the constants: " + open, open.equals(new TreeSet<>(Arrays.asList(
            "public static final int BAD_ARG", "public static final int FULL", "public static final int NONE"))));
    }
}
