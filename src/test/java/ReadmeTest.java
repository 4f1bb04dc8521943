import java.io.IOException;
import java.lang.reflect.Method;
import java.nio.file.Files;
import java.nio.file.Path;
import java.util.HashSet;
import java.util.Set;
import java.util.regex.Matcher;
import java.util.regex.Pattern;

/** The calls that README.md shows, in their order, each with the answer that is told behind it. */
final class ReadmeTest {
    private static final Pattern SHOWN = Pattern.compile("graph\\.(\\w+)\\(([^)]*)\\);\\s*// (-?\\d+|true|false)\\b.*");

    public static void main(String[] args) throws IOException, ReflectiveOperationException {
        Answers answers = new Answers();
        TreeTolerance graph = new TreeTolerance();
        Set<String> shown = new HashSet<>();
        for (String line : Files.readAllLines(Path.of("README.md"))) {
            if (line.startsWith("graph.")) {
                Matcher call = SHOWN.matcher(line);
                boolean matches = call.matches();
                answers.due("README has a call and its answer in: " + line, matches, true);
                if (!matches) {
                    continue;
                }
                String got = answer(graph, call.group(1), call.group(2));
                answers.due("README is right in: " + line + " (answered " + got + ")", got.equals(call.group(3)), true);
                shown.add(call.group(1));
            }
        }
        for (Method method : TreeTolerance.class.getMethods()) {
            if (method.getDeclaringClass() == TreeTolerance.class) {
                answers.due("README shows " + method.getName(), shown.contains(method.getName()), true);
            }
        }
        answers.close();
    }

    private static String answer(TreeTolerance graph, String name, String numbers) throws ReflectiveOperationException {
        String[] texts = numbers.isEmpty() ? new String[0] : numbers.split(", ");
        Class<?>[] types = new Class<?>[texts.length];
        Object[] values = new Object[texts.length];
        for (int i = 0; i < texts.length; i++) {
            types[i] = int.class;
            values[i] = Integer.valueOf(texts[i]);
        }
        return TreeTolerance.class.getMethod(name, types).invoke(graph, values).toString();
    }
}
