import java.io.IOException;
import java.nio.file.Files;
import java.nio.file.Path;
import java.util.regex.Matcher;
import java.util.regex.Pattern;

/** Rules of LANGUAGE.md that can be seen in the source; it is run from the project's directory. */
public final class LanguageTest {
    public static void main(String[] args) throws IOException {
        String source = Files.readString(Path.of("src/main/java/PosterFitter.java"));
        String code = source.replaceAll("(?s)/\\*.*?\\*/", "").replaceAll("//[^\n]*", "");
        absent(code, "\\b(throw|throws|try|catch|synchronized|assert|volatile|transient|native)\\b", "rule 6");
        absent(code, "->|::", "rule 2: no lambda, no method reference");
        absent(code, "\\b(package|System\\.(?!arraycopy)|Thread|Random|Object|hashCode|toString)\\b", "rules 1, 4, 6, 13");
        absent(code, "\\b\\w+Exact\\b", "rule 4");
        absent(code, "\\bstatic (?!final\\b)[\\w\\[\\]]+ \\w+( =|;)", "rule 5: static fields are final");
        absent(code, "\\bimport (?!java\\.util\\.(Arrays|ArrayList|List|Iterator);)", "rule 4");
        absent(code, "\\w+\\((\\s*\\w+(\\[\\])? \\w+,){7}", "rule 11: at most seven parameters");
        absent(code, "\\bnew \\w+\\[(?![A-Z_0-9 *+]+\\])", "rule 7: a new row's length is made of constants, so that it is never below 0");
        absent(source, "[^\\n\\x20-\\x7e]", "only plain signs");
        methodsAreShort(code);
        Check.end();
    }

    private static void absent(String code, String pattern, String rule) {
        Matcher m = Pattern.compile(pattern).matcher(code);
        Check.holds(rule + ": " + pattern, !m.find());
    }

    /** A method ends with a brace that stands as far from the margin as its head. */
    private static void methodsAreShort(String code) {
        Matcher m = Pattern.compile("(?ms)^( {4}| {8})(?! )[^\\n{};=]*\\([^{};]*\\) \\{\\n.*?^\\1\\}").matcher(code);
        int methods = 0;
        while (m.find()) {
            methods++;
            Check.holds("short: " + m.group().lines().findFirst().orElse(""), m.group().lines().count() <= 40);
        }
        Check.holds("methods are found", methods > 60);
    }
}
