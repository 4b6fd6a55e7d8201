import java.io.IOException;

/**
 * Shows that each sentence's calls under src/test/sentences would fail if the sentence did not
 * hold: runs them on the Models with faults that BrokenModels wrote, and each has to be noticed.
 */
public final class BrokenTest {
    private BrokenTest() {
    }

    public static void main(String[] args) throws IOException, ClassNotFoundException {
        Check check = new Check("BrokenTest");
        int number = 0;
        for (Sentences file : Sentences.all()) {
            for (Sentences.Sentence sentence : file.sentences) {
                String place = file.name + ":" + sentence.number + ": " + sentence.quote + ": ";
                for (Sentences.Fault fault : sentence.faults()) {
                    Class<?> model = Class.forName("Model" + number);
                    String told = fault.scope + ": " + fault.old + " => " + fault.fresh;
                    check.due(place + told, "noticed", isNoticed(file, sentence, model) ? "noticed" : "not noticed");
                    number++;
                }
            }
        }
        check.end();
    }

    private static boolean isNoticed(Sentences file, Sentences.Sentence sentence, Class<?> model) {
        Check quiet = Check.quiet();
        try {
            sentence.run(file.name, new Script(quiet, model), true);
        } catch (NumberFormatException thrown) {
            // The looks of a refused call read numbers; a Model with a fault may throw instead.
            return true;
        }
        return quiet.isWrong();
    }
}
