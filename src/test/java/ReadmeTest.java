import java.io.IOException;
import java.lang.reflect.Method;
import java.lang.reflect.Modifier;
import java.nio.file.Files;
import java.nio.file.Path;
import java.util.ArrayList;
import java.util.Arrays;
import java.util.List;
import java.util.Set;
import java.util.TreeSet;
import java.util.regex.Matcher;
import java.util.regex.Pattern;

/** The calls in the examples of README.md answer what stands behind them, and every method is shown there. */
public final class ReadmeTest {
    private static final String MADE = "GraphPatterns graph = new GraphPatterns();";
    private static final Pattern CALL =
        Pattern.compile("graph\\.(\\w+)\\(([^()]*)\\); +// (-?\\d+|true|false|BAD|FULL)(?:: .*)?");

    private GraphPatterns graph;
    private final Set<String> shown = new TreeSet<>();

    private static List<String> linesOfExamples() throws IOException {
        List<String> lines = new ArrayList<>();
        boolean inExample = false;
        for (String line : Files.readAllLines(Path.of("README.md"))) {
            if (line.startsWith("```")) {
                inExample = line.equals("```java");
            } else if (inExample && !line.isBlank()) {
                lines.add(line);
            }
        }
        return lines;
    }

    private void check(String line) throws ReflectiveOperationException {
        Matcher call = CALL.matcher(line);
        if (line.equals(MADE)) {
            graph = new GraphPatterns();
        } else if (graph == null || !call.matches()) {
            Sentences.wrong("not a call with its answer: " + line);
        } else {
            checkAnswer(line, call.group(1), arguments(call.group(2)), call.group(3));
        }
    }

    private void checkAnswer(String line, String name, Object[] arguments, String told)
            throws ReflectiveOperationException {
        shown.add(name);
        Class<?>[] types = new Class<?>[arguments.length];
        Arrays.fill(types, int.class);
        Object got = GraphPatterns.class.getMethod(name, types).invoke(graph, arguments);
        if (!got.equals(answer(told))) {
            Sentences.wrong("answered " + got + ": " + line);
        }
    }

    private static Object answer(String told) {
        switch (told) {
            case "BAD":
                return GraphPatterns.BAD;
            case "FULL":
                return GraphPatterns.FULL;
            case "true":
            case "false":
                return Boolean.valueOf(told);
            default:
                return Integer.valueOf(told);
        }
    }

    private static Object[] arguments(String list) {
        List<Object> values = new ArrayList<>();
        for (String argument : list.isBlank() ? new String[0] : list.split(",")) {
            values.add(sum(argument));
        }
        return values.toArray();
    }

    /** The value of a sum of numbers and products, such as 2 + 3 * 7. */
    private static int sum(String text) {
        int sum = 0;
        for (String term : text.split("\\+")) {
            int product = 1;
            for (String factor : term.split("\\*")) {
                product *= Integer.parseInt(factor.trim());
            }
            sum += product;
        }
        return sum;
    }

    private void examples() {
        try {
            for (String line : linesOfExamples()) {
                check(line);
            }
        } catch (IOException | ReflectiveOperationException thrown) {
            Sentences.wrong("the examples could not be read or called: " + thrown);
        }
    }

    private void everyMethodIsShown() {
        for (Method method : GraphPatterns.class.getDeclaredMethods()) {
            if (Modifier.isPublic(method.getModifiers()) && !shown.contains(method.getName())) {
                Sentences.wrong("no example calls " + method.getName());
            }
        }
    }

    public static void main(String[] args) {
        ReadmeTest test = new ReadmeTest();
        Sentences.test("README.md: each call answers what stands behind it", test::examples);
        Sentences.test("README.md: every method is called", test::everyMethodIsShown);
        Sentences.end();
    }
}
