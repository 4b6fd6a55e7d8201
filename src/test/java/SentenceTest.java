import java.io.IOException;
import java.nio.charset.StandardCharsets;
import java.nio.file.Files;
import java.nio.file.Path;
import java.util.LinkedHashMap;
import java.util.List;
import java.util.Map;
import java.util.Set;
import java.util.TreeSet;

/**
 * Holds the class, and the Model, to each sentence of the document by itself: runs the calls under
 * src/test/sentences, and looks whether these files have all sentences, in the document's words.
 */
public final class SentenceTest {
    private static final Path DOCUMENT = Path.of("../shared/DOC.md");
    // The face is looked at by LanguageTest; the others have no sentence that promises something.
    private static final Set<String> WITHOUT_FILE = Set.of("# PrunedSlices", "## The public face",
            "## Terms", "## Not promised");

    private SentenceTest() {
    }

    public static void main(String[] args) throws IOException {
        Check check = new Check("SentenceTest");
        List<Sentences> files = Sentences.all();
        for (Sentences file : files) {
            for (Sentences.Sentence sentence : file.sentences) {
                holds(check, file, sentence);
            }
        }
        if (Files.exists(DOCUMENT)) {
            areTheDocument(check, files);
        } else {
            System.out.println("SentenceTest: " + DOCUMENT + " is not there, its words were not looked at");
        }
        check.end();
    }

    private static void areTheDocument(Check check, List<Sentences> files) throws IOException {
        Map<String, String> document = document();
        Set<String> headings = new TreeSet<>(WITHOUT_FILE);
        for (Sentences file : files) {
            headings.add(file.heading);
            check.due(file.name + " is a section of the document", "true", "" + document.containsKey(file.heading));
            hasAllWords(check, file, document.getOrDefault(file.heading, ""));
        }
        check.due("the sections of the document", new TreeSet<>(document.keySet()).toString(), headings.toString());
    }

    private static void holds(Check check, Sentences file, Sentences.Sentence sentence) {
        String place = file.name + ":" + sentence.number + ": " + sentence.quote + ": ";
        if (sentence.free().isEmpty()) {
            check.due(place + "has calls", "true", "" + sentence.hasCalls());
            check.due(place + "has faults", "true", "" + !sentence.faults().isEmpty());
        }
        sentence.run(file.name, new Script(check, PrunedSlices.class), false);
        sentence.run(file.name, new Script(check, Model.class), false);
    }

    /** The sentences of a file stand in its section in the same order, and no word between them. */
    private static void hasAllWords(Check check, Sentences file, String section) {
        int from = 0;
        for (Sentences.Sentence sentence : file.sentences) {
            String place = file.name + ":" + sentence.number + ": ";
            int at = section.indexOf(sentence.quote, from);
            check.due(place + "a sentence of the document", "true", "" + (at >= 0));
            if (at >= 0) {
                check.due(place + "words ahead of it", "", words(section.substring(from, at)));
                from = at + sentence.quote.length();
            }
        }
        check.due(file.name + ": words at the end", "", words(section.substring(from)));
    }

    private static String words(String text) {
        return text.matches(".*[A-Za-z0-9].*") ? text : "";
    }

    /** The document's sections by their headings, without the calls' heads and the word "Returns". */
    private static Map<String, String> document() throws IOException {
        Map<String, String> sections = new LinkedHashMap<>();
        String heading = "";
        List<String> lines = Files.readAllLines(DOCUMENT, StandardCharsets.UTF_8);
        for (String line : lines) {
            if (line.startsWith("#") || line.matches("[A-Z][A-Z, ]+")) {
                heading = line;
                sections.put(heading, "");
            } else if (!line.startsWith("```")) {
                String bare = line.replaceFirst("^`\\w* ?\\w+\\([^`]*\\)`:", "").replaceFirst("^Returns ", "");
                sections.merge(heading, bare, (text, more) -> (text + " " + more).replaceAll("\\s+", " "));
            }
        }
        return sections;
    }
}
