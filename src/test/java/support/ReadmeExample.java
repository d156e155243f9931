import java.io.IOException;
import java.lang.reflect.Field;
import java.lang.reflect.Method;
import java.lang.reflect.Modifier;
import java.nio.file.Files;
import java.nio.file.Path;
import java.util.List;
import java.util.regex.Matcher;
import java.util.regex.Pattern;

/**
 * Writes a test of the example in README.md: the lines of all its Java blocks, one after the other, in which
 * each call is compared with the answer that the comment behind it begins with. Its arguments are the names of
 * README.md and of the test's file.
 */
final class ReadmeExample {
    /** A call, its answer, and what may be said of it. */
    private static final Pattern ANSWERED = Pattern.compile(
            "(poster\\.\\w+\\([^;]*\\)); +// (-?\\d+|NONE|BAD_INDEX|BAD_VALUE|BAD_STATE|FULL)(?:: .+)?");
    /** Lines of the margin that are no calls: the new object, and a loop's head and end. */
    private static final Pattern PLAIN = Pattern.compile("PosterFitter poster = new PosterFitter\\(\\);|for \\(.*\\) \\{|\\}");
    /** Calls within a loop, whose answers differ from round to round. */
    private static final Pattern REPEATED = Pattern.compile(" {4}poster\\.\\w+\\([^;]*\\);");

    private final StringBuilder test = new StringBuilder();

    private ReadmeExample() {
    }

    public static void main(String[] args) throws IOException {
        ReadmeExample example = new ReadmeExample();
        example.addBlocks(Files.readAllLines(Path.of(args[0])));
        example.isWhole();
        Path target = Path.of(args[1]);
        Files.writeString(target, example.asTest(target.getFileName().toString().replace(".java", "")));
    }

    private void addBlocks(List<String> lines) {
        boolean isJava = false;
        for (int i = 0; i < lines.size(); i++) {
            String line = lines.get(i);
            if (line.startsWith("```")) {
                isJava = line.equals("```java");
            } else if (isJava && !line.isBlank()) {
                addLine("README.md, line " + (i + 1), line);
            }
        }
    }

    /** A line that is none of those that are known could show an answer that nothing compares. */
    private void addLine(String place, String line) {
        Matcher answered = ANSWERED.matcher(line);
        if (answered.matches()) {
            addCheck(place + ": " + answered.group(1), answered.group(1), answered.group(2));
        } else if (PLAIN.matcher(line).matches() || REPEATED.matcher(line).matches()) {
            test.append("        ").append(line).append('\n');
        } else {
            throw new IllegalArgumentException(place + " is no line of an example: " + line);
        }
    }

    private void addCheck(String what, String call, String answer) {
        boolean isNumber = answer.matches("-?\\d+");
        test.append("        Check.due(\"").append(what).append("\", ").append(call).append(", ")
                .append(isNumber ? answer + "L" : "PosterFitter." + answer).append(");\n");
    }

    /** The example shows how each method is used, and an answer for each constant. */
    private void isWhole() {
        for (Method method : PosterFitter.class.getDeclaredMethods()) {
            if (Modifier.isPublic(method.getModifiers())) {
                shows(", poster." + method.getName() + "(");
            }
        }
        for (Field constant : PosterFitter.class.getFields()) {
            shows(", PosterFitter." + constant.getName() + ")");
        }
    }

    private void shows(String words) {
        if (test.indexOf(words) < 0) {
            throw new IllegalArgumentException("README.md shows nothing compared with " + words);
        }
    }

    private String asTest(String name) {
        return "public final class " + name + " {\n    public static void main(String[] args) {\n" + test
                + "        Check.end();\n    }\n}\n";
    }
}
