import java.io.IOException;
import java.lang.reflect.Method;
import java.lang.reflect.Modifier;
import java.util.Set;
import java.util.TreeSet;

/** Runs the examples of README.md that Readme wrote, and looks whether its table has all calls. */
public final class ReadmeTest {
    private ReadmeTest() {
    }

    public static void main(String[] args) throws IOException, ReflectiveOperationException {
        Check check = new Check("ReadmeTest");
        int examples = Readme.examples().size();
        check.due("there are examples", "true", "" + (examples > 0));
        Class<?> written = Class.forName(Readme.CLASS_NAME);
        for (int i = 0; i < examples; i++) {
            written.getDeclaredMethod(Readme.nameOf(i), Check.class).invoke(null, check);
        }
        check.due("the calls of the table", callsOfTheFace().toString(), Readme.calls().toString());
        check.end();
    }

    private static Set<String> callsOfTheFace() {
        Set<String> calls = new TreeSet<>();
        for (Method method : PrunedSlices.class.getDeclaredMethods()) {
            if (Modifier.isPublic(method.getModifiers())) {
                calls.add(method.getName());
            }
        }
        return calls;
    }
}
