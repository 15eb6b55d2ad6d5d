import java.io.IOException;
import java.lang.reflect.Field;
import java.lang.reflect.Modifier;
import java.nio.file.Files;
import java.nio.file.Path;
import java.util.Arrays;
import java.util.Comparator;
import java.util.List;
import java.util.regex.Matcher;
import java.util.regex.Pattern;

/**
 * The examples of README.md: each begins with a new object, and each of its calls is followed by a comment that begins
 * with the answer. The page names every call. Run from the project's root.
 */
public final class ReadmeTest {
    private static final Path PAGE = Path.of("README.md");
    private static final Pattern EXAMPLE = Pattern.compile("(?s)```java\n(.*?)```");
    private static final Pattern CALL = Pattern.compile("keys\\.(\\w+\\(.*\\)); *// (-?\\d+)(:.*)?");
    private static final String MAKING = "KeyCommandInterpreter keys = new KeyCommandInterpreter();";
    private static final int EXAMPLES = 3;

    public static void main(String[] args) throws IOException, IllegalAccessException {
        Runs runs = new Runs();
        String page = Files.readString(PAGE);
        Matcher matcher = EXAMPLE.matcher(page);
        int found = 0;
        while (matcher.find()) {
            found++;
            checkExample(runs, "example " + found + " of the page", matcher.group(1));
        }
        runs.due("the number of examples", found, EXAMPLES);
        Arrays.stream(KeyCommandInterpreter.class.getDeclaredMethods())
            .filter(method -> Modifier.isPublic(method.getModifiers()))
            .forEach(method -> runs.due("the page names " + method, page.contains("`" + method.getName() + "("), true));
        runs.end();
    }

    private static void checkExample(Runs runs, String name, String text) throws IllegalAccessException {
        List<String> lines = text.lines().toList();
        runs.due(name + ": the first line", lines.get(0), MAKING);
        StringBuilder run = new StringBuilder();
        for (String line : lines.subList(1, lines.size())) {
            Matcher call = CALL.matcher(line);
            boolean told = call.matches();
            runs.due(name + ": a call with its answer: " + line, told, true);
            if (told) {
                run.append(withNumbers(call.group(1)) + " = " + call.group(2) + ";");
            }
        }
        runs.check(name, run.toString());
    }

    /** Puts the values of the constants for their names, longer names first: FIRE is the beginning of FIRED. */
    private static String withNumbers(String call) throws IllegalAccessException {
        List<Field> constants = Arrays.stream(KeyCommandInterpreter.class.getFields())
            .sorted(Comparator.comparing((Field field) -> field.getName().length()).reversed()).toList();
        String numbers = call;
        for (Field constant : constants) {
            numbers = numbers.replace("KeyCommandInterpreter." + constant.getName(), "" + constant.get(null));
        }
        return numbers;
    }
}
