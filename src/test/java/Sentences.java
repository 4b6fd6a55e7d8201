import java.io.IOException;
import java.nio.charset.StandardCharsets;
import java.nio.file.Files;
import java.nio.file.Path;
import java.util.ArrayList;
import java.util.List;
import java.util.stream.Collectors;
import java.util.stream.Stream;

/**
 * A file under src/test/sentences: a section of the document, sentence by sentence, each with the
 * calls that hold it and with faults of the Model by which these calls would fail.
 */
final class Sentences {
    /** A sentence, or a part of one, and what stands behind it in the file. */
    static final class Sentence {
        final String quote;
        final int number;
        final List<String> lines = new ArrayList<>();

        private Sentence(String quote, int number) {
            this.quote = quote;
            this.number = number;
        }

        /** Why there is no call for it; empty if there are some. */
        String free() {
            return lines.stream().filter(line -> line.startsWith("free ")).findFirst().orElse("");
        }

        List<Fault> faults() {
            return lines.stream().filter(Sentences::isFault).map(Fault::new).collect(Collectors.toList());
        }

        boolean hasCalls() {
            return lines.stream().anyMatch(line -> line.contains(" = ") && !isFault(line));
        }

        /** Makes the calls; behind a wrong answer the others are left out if it is asked for. */
        void run(String file, Script script, boolean untilWrong) {
            for (int i = 0; i < lines.size() && !(untilWrong && script.isWrong()); i++) {
                String line = lines.get(i);
                if (!isFault(line) && !line.startsWith("free ")) {
                    script.run(file, number + i + 1, line);
                }
            }
        }
    }

    /** A place in the source of the Model, what stands there, and what a faulty one would say. */
    static final class Fault {
        final String scope;
        final String old;
        final String fresh;

        private Fault(String line) {
            int colon = line.indexOf(": ");
            int arrow = line.indexOf(" =>", colon);
            if (colon < 0 || arrow < 0) {
                throw new IllegalArgumentException(line);
            }
            scope = line.substring("broken ".length(), colon);
            old = line.substring(colon + 2, arrow);
            fresh = line.substring(arrow + 3).trim();
        }
    }

    final String name;
    final String heading;
    final List<Sentence> sentences = new ArrayList<>();

    private Sentences(Path file) throws IOException {
        name = file.getFileName().toString();
        List<String> lines = Files.readAllLines(file, StandardCharsets.UTF_8);
        heading = lines.get(0).substring("section ".length());
        for (int i = 1; i < lines.size(); i++) {
            String line = lines.get(i);
            if (line.startsWith("> ")) {
                sentences.add(new Sentence(line.substring(2), i + 1));
            } else if (!sentences.isEmpty()) {
                sentences.get(sentences.size() - 1).lines.add(line);
            }
        }
    }

    static List<Sentences> all() throws IOException {
        List<Path> paths;
        try (Stream<Path> files = Files.list(Path.of("src/test/sentences"))) {
            paths = files.sorted().collect(Collectors.toList());
        }
        List<Sentences> all = new ArrayList<>();
        for (Path path : paths) {
            all.add(new Sentences(path));
        }
        return all;
    }

    private static boolean isFault(String line) {
        return line.startsWith("broken ");
    }
}
