import java.io.IOException;
import java.nio.file.Files;
import java.nio.file.Path;
import java.util.List;
import java.util.regex.Matcher;
import java.util.regex.Pattern;

/** Rules of the language that can be seen in the text of the program. Run from the project's root. */
public final class LanguageTest {
    private static final Path SOURCE = Path.of("src/main/java/KeyCommandInterpreter.java");
    private static final List<String> FORBIDDEN = List.of(
        "\\b(throw|throws|try|catch|finally|synchronized|assert|volatile|transient|native)\\b",
        "->", "::", "\\bpackage\\b", "\\bvar\\b", "\\bprotected\\b", "\\bgoto\\b",
        "\\b(equals|hashCode|toString|getClass)\\s*\\(", "Exact\\s*\\(", "\\bSystem\\.(?!arraycopy)", "\\bThread\\b",
        "import (?!java\\.util\\.(ArrayList|List|Arrays|Iterator);)", "\\bstatic\\s*\\{");
    private static final int LONGEST_METHOD = 60;

    public static void main(String[] args) throws IOException {
        Runs runs = new Runs();
        String text = Files.readString(SOURCE);
        runs.due("signs beyond 127", text.chars().filter(sign -> sign > 127).count(), 0L);
        String code = text.replaceAll("(?s)/\\*.*?\\*/", "").replaceAll("//[^\n]*", "");
        for (String pattern : FORBIDDEN) {
            Matcher matcher = Pattern.compile(pattern).matcher(code);
            runs.due("the use of " + pattern, matcher.find() ? matcher.group() : "none", "none");
        }
        runs.due("the longest method is short", longestMethod(text) <= LONGEST_METHOD, true);
        runs.end();
    }

    /** The most lines between a line that opens a body at one indentation and the line that closes it. */
    private static int longestMethod(String text) {
        int longest = 0;
        Matcher matcher = Pattern.compile("(?ms)^( {4}| {8})[a-z][^\n;]*\\) \\{\n(.*?)^\\1\\}").matcher(text);
        while (matcher.find()) {
            longest = Math.max(longest, (int) matcher.group(2).lines().count());
        }
        return longest;
    }
}
