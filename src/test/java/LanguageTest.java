import java.io.IOException;
import java.lang.reflect.Field;
import java.lang.reflect.Method;
import java.lang.reflect.Modifier;
import java.nio.file.Files;
import java.nio.file.Path;
import java.util.ArrayList;
import java.util.Arrays;
import java.util.List;
import java.util.Set;
import java.util.regex.Matcher;
import java.util.regex.Pattern;
import java.util.stream.Collectors;

/** Rules of the language that can be seen in the text of the program and in its classes. Run from the project's root. */
public final class LanguageTest {
    private static final Path SOURCE = Path.of("src/main/java/KeyCommandInterpreter.java");
    private static final List<String> FORBIDDEN = List.of(
        "\\b(throw|throws|try|catch|finally|synchronized|assert|volatile|transient|native)\\b",
        "->", "::", "\\bpackage\\b", "\\bvar\\b", "\\bprotected\\b", "\\bgoto\\b",
        "\\b(equals|hashCode|toString|getClass)\\s*\\(", "Exact\\s*\\(", "\\bSystem\\.(?!arraycopy)", "\\bThread\\b",
        "import (?!java\\.util\\.(ArrayList|List|Arrays|Iterator);)", "\\bstatic\\s*\\{");
    private static final int LONGEST_METHOD = 60;
    private static final int MOST_PARAMETERS = 7;
    private static final int MOST_CLASSES = 12;
    private static final int MOST_FIELDS = 20;
    private static final Set<Class<?>> CONSTANTS = Set.of(int.class, long.class, boolean.class, char.class, String.class,
        int[].class, long[].class, char[].class, byte[].class);

    public static void main(String[] args) throws IOException {
        Runs runs = new Runs();
        String text = Files.readString(SOURCE);
        runs.due("signs beyond 127", text.chars().filter(sign -> sign > 127).count(), 0L);
        String code = text.replaceAll("(?s)/\\*.*?\\*/", "").replaceAll("//[^\n]*", "");
        for (String pattern : FORBIDDEN) {
            Matcher matcher = Pattern.compile(pattern).matcher(code);
            runs.due("the use of " + pattern, matcher.find() ? matcher.group() : "none", "none");
        }
        runs.due("the longest method is short", longestMethod(text) <= LONGEST_METHOD, true);
        checkClasses(runs);
        runs.end();
    }

    private static void checkClasses(Runs runs) {
        Class<?> face = KeyCommandInterpreter.class;
        List<Class<?>> all = new ArrayList<>(List.of(face));
        all.addAll(Arrays.asList(face.getDeclaredClasses()));
        runs.due("there are few classes", all.size() <= MOST_CLASSES, true);
        Set<String> open = Arrays.stream(face.getDeclaredMethods())
            .filter(method -> Modifier.isPublic(method.getModifiers())).map(Method::getName).collect(Collectors.toSet());
        for (Class<?> one : all) {
            for (Method method : one.getDeclaredMethods()) {
                boolean own = one == face && Modifier.isPublic(method.getModifiers());
                runs.due(method + " has a public method's name", !own && open.contains(method.getName()), false);
                runs.due(method + " has few parameters", method.getParameterCount() <= MOST_PARAMETERS, true);
            }
            checkFields(runs, one);
        }
    }

    /** Static fields are constants; the other ones are few. */
    private static void checkFields(Runs runs, Class<?> one) {
        int fields = 0;
        for (Field field : one.getDeclaredFields()) {
            if (Modifier.isStatic(field.getModifiers())) {
                boolean constant = Modifier.isFinal(field.getModifiers()) && CONSTANTS.contains(field.getType());
                runs.due(field + " is a constant", constant, true);
            } else {
                fields++;
            }
        }
        runs.due(one + " has few fields", fields <= MOST_FIELDS, true);
    }

    /** The most lines between a line that opens a body at one indentation and the line that closes it. */
    private static int longestMethod(String text) {
        int longest = 0;
        Matcher matcher = Pattern.compile("(?ms)^( {4}| {8})[a-z][^\n;]*\\) \\{\n(.*?)^\\1\\}").matcher(text);
        while (matcher.find()) {
            longest = Math.max(longest, (int) matcher.group(2).lines().count());
        }
        return longest;
    }
}
