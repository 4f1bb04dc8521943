import java.lang.reflect.Constructor;
import java.lang.reflect.Field;
import java.lang.reflect.Method;
import java.lang.reflect.Modifier;
import java.util.TreeSet;

/** The public face: just the members that the document names, and nothing else to be seen from outside. */
final class FaceTest {
    private static final String[] FACE = {
        "NONE : int = -1",
        "FULL : int = -2",
        "new()",
        "add(int, int, int) : int",
        "remove(int) : boolean",
        "reweigh(int, int) : boolean",
        "edges() : int",
        "weight(int) : int",
        "chosen() : int",
        "total() : int",
        "limit(int) : int",
        "loss(int) : int",
        "second() : int",
        "forests() : int",
        "allForests() : int",
        "narrowest(int, int) : int",
        "possible() : int",
        "certain() : int",
    };

    public static void main(String[] args) throws IllegalAccessException {
        Answers answers = new Answers();
        int modifiers = TreeTolerance.class.getModifiers();
        answers.due("the class is public and final",
                Modifier.isPublic(modifiers) && Modifier.isFinal(modifiers), true);
        answers.due("number of nested classes", TreeTolerance.class.getDeclaredClasses().length, 0);

        TreeSet<String> seen = new TreeSet<>();
        for (Field field : TreeTolerance.class.getDeclaredFields()) {
            if (!Modifier.isPrivate(field.getModifiers())) {
                answers.due(field + " is a public constant",
                        field.getModifiers() == (Modifier.PUBLIC | Modifier.STATIC | Modifier.FINAL), true);
                seen.add(field.getName() + " : " + field.getType() + " = " + field.get(null));
            }
        }
        for (Constructor<?> made : TreeTolerance.class.getDeclaredConstructors()) {
            answers.due(made + " is public", made.getModifiers() == Modifier.PUBLIC, true);
            seen.add("new" + parameters(made.getParameterTypes()));
        }
        for (Method method : TreeTolerance.class.getDeclaredMethods()) {
            if (!Modifier.isPrivate(method.getModifiers())) {
                answers.due(method + " is public alone", method.getModifiers() == Modifier.PUBLIC, true);
                seen.add(method.getName() + parameters(method.getParameterTypes()) + " : " + method.getReturnType());
            }
        }
        for (String member : FACE) {
            answers.due("the class has " + member, seen.remove(member), true);
        }
        for (String member : seen) {
            answers.due("the class has " + member, true, false);
        }
        answers.close();
    }

    private static String parameters(Class<?>[] types) {
        StringBuilder text = new StringBuilder();
        for (Class<?> type : types) {
            text.append(text.length() == 0 ? "" : ", ").append(type);
        }
        return "(" + text + ")";
    }
}
