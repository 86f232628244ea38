import java.io.IOException;
import java.lang.reflect.Method;
import java.lang.reflect.Modifier;
import java.nio.file.Files;
import java.nio.file.Path;
import java.util.Arrays;
import java.util.Collections;
import java.util.List;
import java.util.regex.Matcher;
import java.util.regex.Pattern;

/** README.md's examples answer what is told behind them, and it tells of each call; run at the project's root. */
public final class ReadmeTest {
    private static final Pattern MADE = Pattern.compile("OnlyWhatIsLost x = new OnlyWhatIsLost\\(\\);");
    private static final Pattern WRITTEN = Pattern.compile("for \\(char letter : \"([^\"]*)\"\\.toCharArray\\(\\)\\) \\{");
    private static final Pattern ASKED = Pattern.compile("x\\.(\\w+)\\(([^)]*)\\); +// (-?\\d+|[A-Z]+): .*");
    private static final List<String> OF_THE_LOOP = List.of("    x.write(letter);", "}");
    private static final int EXAMPLES = 2;

    private OnlyWhatIsLost x;
    private int examples;
    private boolean inExample;

    public static void main(String[] args) throws IOException, ReflectiveOperationException {
        List<String> lines = Files.readAllLines(Path.of("README.md"));
        ReadmeTest test = new ReadmeTest();
        for (String line : lines) {
            test.read(line);
        }
        Due.due("examples of README.md", test.examples, EXAMPLES);
        tellsOfEachCall(String.join("\n", lines));
        Due.end();
    }

    private void read(String line) throws ReflectiveOperationException {
        if (line.startsWith("```")) {
            inExample = line.equals("```java");
        } else if (inExample) {
            follow(line);
        }
    }

    private void follow(String line) throws ReflectiveOperationException {
        Matcher written = WRITTEN.matcher(line);
        Matcher asked = ASKED.matcher(line);
        if (MADE.matcher(line).matches()) {
            x = new OnlyWhatIsLost();
            examples++;
        } else if (written.matches()) {
            Due.write(x, written.group(1));
        } else if (asked.matches()) {
            Due.due("README.md: " + line, answer(asked.group(1), asked.group(2)), told(asked.group(3)));
        } else {
            Due.due("README.md, not understood: " + line, OF_THE_LOOP.contains(line) ? 1 : 0, 1);
        }
    }

    private int answer(String name, String numbers) throws ReflectiveOperationException {
        Object[] given = numbers.isEmpty()
            ? new Object[0]
            : Arrays.stream(numbers.split(", ")).map(ReadmeTest::valueOf).toArray();
        for (Method method : OnlyWhatIsLost.class.getMethods()) {
            if (method.getName().equals(name) && method.getParameterCount() == given.length) {
                return (Integer) method.invoke(x, given);
            }
        }
        throw new NoSuchMethodException(name);
    }

    private static Object valueOf(String word) {
        if (word.equals("true") || word.equals("false")) {
            return Boolean.valueOf(word);
        }
        return Integer.valueOf(word);
    }

    private static int told(String answer) throws ReflectiveOperationException {
        return answer.matches("-?\\d+")
            ? Integer.parseInt(answer)
            : OnlyWhatIsLost.class.getField(answer).getInt(null);
    }

    private static void tellsOfEachCall(String readme) {
        for (Method method : OnlyWhatIsLost.class.getDeclaredMethods()) {
            if (Modifier.isPublic(method.getModifiers())) {
                String numbers = String.join(", ", Collections.nCopies(method.getParameterCount(), "\\w+"));
                Pattern call = Pattern.compile("`" + method.getName() + "\\(" + numbers + "\\)`");
                Due.due("README.md tells of " + method.getName(), call.matcher(readme).find() ? 1 : 0, 1);
            }
        }
    }
}
