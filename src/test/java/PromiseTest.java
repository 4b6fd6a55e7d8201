import java.io.IOException;
import java.nio.charset.StandardCharsets;
import java.nio.file.Files;
import java.nio.file.Path;
import java.util.List;
import java.util.TreeSet;
import java.util.stream.Collectors;
import java.util.stream.Stream;

/**
 * Runs the scripts under src/test/promises, one for each promise, on the class, and on the Model
 * too, so that the Model is held to them as well. README.md tells what a line of a script says.
 */
public final class PromiseTest {
    private static final int PROMISES = 37;

    private PromiseTest() {
    }

    public static void main(String[] args) throws IOException {
        Check check = new Check("PromiseTest");
        List<Path> scripts;
        try (Stream<Path> files = Files.list(Path.of("src/test/promises"))) {
            scripts = files.sorted().collect(Collectors.toList());
        }
        TreeSet<String> numbers = new TreeSet<>();
        for (Path script : scripts) {
            numbers.add(script.getFileName().toString().substring(0, 2));
            run(script, new Script(check, PrunedSlices.class));
            run(script, new Script(check, Model.class));
        }
        check.due("promises with a script", PROMISES, numbers.size());
        constantsStand(check);
        check.end();
    }

    private static void constantsStand(Check check) {
        check.due("UNKNOWN", -1001, PrunedSlices.UNKNOWN);
        check.due("BAD_VALUE", -1002, PrunedSlices.BAD_VALUE);
        check.due("FULL", -1003, PrunedSlices.FULL);
        check.due("NOT_POSSIBLE", -1004, PrunedSlices.NOT_POSSIBLE);
        check.due("NONE", -1005, PrunedSlices.NONE);
    }

    private static void run(Path file, Script script) throws IOException {
        int number = 0;
        for (String line : Files.readAllLines(file, StandardCharsets.UTF_8)) {
            number++;
            script.run(file.getFileName().toString(), number, line);
        }
    }
}
