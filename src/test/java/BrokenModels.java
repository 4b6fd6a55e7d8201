import java.io.IOException;
import java.nio.charset.StandardCharsets;
import java.nio.file.Files;
import java.nio.file.Path;
import java.util.Arrays;
import java.util.List;
import java.util.regex.Pattern;

/**
 * Writes a Model for each fault that is told under src/test/sentences: Model0, Model1 and so on.
 * The argument is the directory that they are written to.
 */
public final class BrokenModels {
    private final Path directory;
    private final String model = read("Model");
    private final String question = read("ModelQuestion");
    private int written;

    private BrokenModels(Path directory) throws IOException {
        this.directory = directory;
    }

    public static void main(String[] args) throws IOException {
        BrokenModels models = new BrokenModels(Path.of(args[0]));
        for (Sentences file : Sentences.all()) {
            for (Sentences.Sentence sentence : file.sentences) {
                for (Sentences.Fault fault : sentence.faults()) {
                    models.write(fault, file.name + ":" + sentence.number);
                }
            }
        }
    }

    private static String read(String name) throws IOException {
        return Files.readString(Path.of("src/test/java", name + ".java"), StandardCharsets.UTF_8);
    }

    private void write(Sentences.Fault fault, String place) throws IOException {
        String ofModel = broken(model, fault);
        String ofQuestion = broken(question, fault);
        if (ofModel == null && ofQuestion == null) {
            throw new IllegalArgumentException(place + ": " + fault.old + " is not in " + fault.scope);
        }
        String other = ofModel == null ? model : ofModel;
        if (ofModel == null) {
            String renamed = "ModelQuestion" + written;
            write(renamed, ofQuestion.replaceAll("\\bModelQuestion\\b", renamed));
            other = other.replaceAll("\\bModelQuestion\\b", renamed);
        }
        write("Model" + written, other.replaceAll("\\bModel\\b", "Model" + written));
        written++;
    }

    private void write(String name, String source) throws IOException {
        Files.writeString(directory.resolve(name + ".java"), source, StandardCharsets.UTF_8);
    }

    /** The source with the fault; null if it has no such place. */
    private static String broken(String source, Sentences.Fault fault) {
        List<String> lines = Arrays.asList(source.split("\n"));
        int from = -1;
        int to = lines.size();
        for (String name : fault.scope.split("\\.")) {
            from = headOf(name, lines, from + 1, to);
            if (from < 0) {
                return null;
            }
            to = endOf(lines, from);
        }
        String inside = String.join("\n", lines.subList(from, to)) + "\n";
        int at = inside.indexOf(fault.old);
        if (at < 0) {
            return null;
        }
        return String.join("\n", lines.subList(0, from)) + "\n" + inside.substring(0, at) + fault.fresh
                + inside.substring(at + fault.old.length()) + String.join("\n", lines.subList(to, lines.size())) + "\n";
    }

    /** The line on which a class or a method begins; -1 if there is none. */
    private static int headOf(String name, List<String> lines, int from, int to) {
        Pattern head = Pattern.compile(" *(?:[\\w<>\\[\\],.?]+ )*" + name + "(?:\\(.*\\))?(?: implements \\w+)? \\{");
        for (int at = from; at < to; at++) {
            if (head.matcher(lines.get(at)).matches()) {
                return at;
            }
        }
        return -1;
    }

    /** The line behind the brace that closes what begins on a line. */
    private static int endOf(List<String> lines, int head) {
        String line = lines.get(head);
        String brace = line.substring(0, line.length() - line.stripLeading().length()) + "}";
        int at = head;
        while (at < lines.size() && !lines.get(at).equals(brace)) {
            at++;
        }
        return Math.min(at + 1, lines.size());
    }
}
