import java.io.IOException;
import java.nio.charset.StandardCharsets;
import java.nio.file.Files;
import java.nio.file.Path;
import java.util.ArrayList;
import java.util.Arrays;
import java.util.List;
import java.util.Set;
import java.util.TreeSet;
import java.util.regex.Matcher;
import java.util.regex.Pattern;

/**
 * README.md: its examples and its table of calls. The main method writes the examples as a class
 * ReadmeExamples, with a method for each, to the directory that the argument names.
 */
public final class Readme {
    static final String CLASS_NAME = "ReadmeExamples";
    private static final Pattern EXAMPLE = Pattern.compile("(?s)```java\n(.*?)```");
    private static final Pattern ANSWER = Pattern.compile("(table\\.\\w+\\(.*\\)); +// ([-\\w.]*\\w).*");
    private static final Pattern CALLS = Pattern.compile("(?m)^\\| (`\\w+`(?: `\\w+`)*) \\|");

    private Readme() {
    }

    public static void main(String[] args) throws IOException {
        StringBuilder source = new StringBuilder("final class " + CLASS_NAME + " {\n");
        List<String> examples = examples();
        for (int i = 0; i < examples.size(); i++) {
            source.append("    static void ").append(nameOf(i)).append("(Check check) {\n");
            source.append(withChecks(examples.get(i))).append("    }\n");
        }
        Path file = Path.of(args[0], CLASS_NAME + ".java");
        Files.writeString(file, source.append("}\n").toString(), StandardCharsets.UTF_8);
    }

    static String nameOf(int example) {
        return "example" + example;
    }

    static List<String> examples() throws IOException {
        List<String> examples = new ArrayList<>();
        Matcher matcher = EXAMPLE.matcher(text());
        while (matcher.find()) {
            examples.add(matcher.group(1));
        }
        return examples;
    }

    /** The calls that the table ahead of the tests names; those behind it name scripts' lines. */
    static Set<String> calls() throws IOException {
        Set<String> calls = new TreeSet<>();
        String text = text();
        Matcher matcher = CALLS.matcher(text.substring(0, text.indexOf("## Tests")));
        while (matcher.find()) {
            calls.addAll(Arrays.asList(matcher.group(1).replace("`", "").split(" ")));
        }
        return calls;
    }

    private static String text() throws IOException {
        return Files.readString(Path.of("README.md"), StandardCharsets.UTF_8);
    }

    /** The lines of an example; one with an answer behind "//" becomes a call of Check. */
    private static String withChecks(String example) {
        StringBuilder lines = new StringBuilder();
        for (String line : example.split("\n")) {
            Matcher matcher = ANSWER.matcher(line);
            if (matcher.matches()) {
                String call = matcher.group(1);
                lines.append("check.due(\"").append(call).append("\", ").append(matcher.group(2))
                        .append(", ").append(call).append(");\n");
            } else if (line.contains("//")) {
                throw new IllegalArgumentException("README.md: no answer is seen in " + line);
            } else {
                lines.append(line).append('\n');
            }
        }
        return lines.toString();
    }
}
