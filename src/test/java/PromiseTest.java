import java.io.IOException;
import java.lang.reflect.InvocationTargetException;
import java.lang.reflect.Method;
import java.nio.charset.StandardCharsets;
import java.nio.file.Files;
import java.nio.file.Path;
import java.util.List;
import java.util.Map;
import java.util.TreeSet;
import java.util.stream.Collectors;
import java.util.stream.Stream;

/**
 * Runs the scripts under src/test/promises, one for each promise, on the class, and on the Model
 * too, so that the Model is held to them as well. README.md tells what a line of a script says.
 */
public final class PromiseTest {
    private static final int PROMISES = 37;
    private static final Map<String, Integer> NAMES = Map.of("UNKNOWN", -1001, "BAD_VALUE", -1002,
            "FULL", -1003, "NOT_POSSIBLE", -1004, "NONE", -1005);

    private final Check check;
    private final Class<?> tested;
    private Object table;
    private String place;

    private PromiseTest(Check check, Class<?> tested) {
        this.check = check;
        this.tested = tested;
    }

    public static void main(String[] args) throws IOException, ReflectiveOperationException {
        Check check = new Check("PromiseTest");
        List<Path> scripts;
        try (Stream<Path> files = Files.list(Path.of("src/test/promises"))) {
            scripts = files.sorted().collect(Collectors.toList());
        }
        TreeSet<String> numbers = new TreeSet<>();
        for (Path script : scripts) {
            numbers.add(script.getFileName().toString().substring(0, 2));
            new PromiseTest(check, PrunedSlices.class).run(script);
            new PromiseTest(check, Model.class).run(script);
        }
        check.due("promises with a script", PROMISES, numbers.size());
        constantsStand(check);
        check.end();
    }

    private static void constantsStand(Check check) {
        check.due("UNKNOWN", -1001, PrunedSlices.UNKNOWN);
        check.due("BAD_VALUE", -1002, PrunedSlices.BAD_VALUE);
        check.due("FULL", -1003, PrunedSlices.FULL);
        check.due("NOT_POSSIBLE", -1004, PrunedSlices.NOT_POSSIBLE);
        check.due("NONE", -1005, PrunedSlices.NONE);
    }

    private void run(Path script) throws IOException, ReflectiveOperationException {
        makeNew();
        int number = 0;
        for (String line : Files.readAllLines(script, StandardCharsets.UTF_8)) {
            number++;
            place = tested.getName() + ", " + script.getFileName() + ":" + number + ": ";
            if (line.equals("new")) {
                makeNew();
            } else if (!line.isEmpty() && line.charAt(0) != '#') {
                runLine(line);
            }
        }
    }

    private void makeNew() throws ReflectiveOperationException {
        table = tested.getDeclaredConstructor().newInstance();
    }

    private void runLine(String line) throws ReflectiveOperationException {
        int sign = line.lastIndexOf(" = ");
        String want = line.substring(sign + 3);
        String[] words = line.substring(0, sign).split(" ");
        int times = 1;
        if (words[0].matches("x\\d+")) {
            times = Integer.parseInt(words[0].substring(1));
            words = Stream.of(words).skip(1).toArray(String[]::new);
        }
        for (int i = 0; i < times; i++) {
            runWords(line, words, want);
        }
    }

    private void runWords(String line, String[] words, String want) throws ReflectiveOperationException {
        switch (words[0]) {
            case "text":
                due(line, want, type(words[1]));
                break;
            case "faultOf":
                type(words[1]);
                due(line, want, call("fault"));
                break;
            case "passesOf":
                type(words[2]);
                due(line, want, call("passes", words[1]));
                break;
            case "both":
                type(words[2]);
                due(line, want, call("looksInto", words[1], "1"));
                due(line, want, call("looksInto", words[1], "2"));
                break;
            case "fillAndDrop":
                due(line, want, fillAndDrop(Integer.parseInt(words[1])));
                break;
            case "addAndDrop":
                due(line, want, call("dropSlice", call("addSlice", "5", "6").toString()));
                break;
            default:
                due(line, want, call(words[0], Stream.of(words).skip(1).toArray(String[]::new)));
        }
    }

    private Object type(String text) throws ReflectiveOperationException {
        Object answer = call("clearText");
        for (char sign : text.toCharArray()) {
            answer = call("type", Integer.toString(sign));
        }
        return answer;
    }

    private Object fillAndDrop(int rows) throws ReflectiveOperationException {
        String slice = call("addSlice", "0", "1000").toString();
        for (int i = 0; i < rows; i++) {
            call("put", "5", "0");
        }
        return call("dropSlice", slice);
    }

    private void due(String line, String want, Object got) {
        if (got instanceof Double) {
            check.due(place + line, Double.parseDouble(want), (Double) got);
            return;
        }
        int number = (Integer) got;
        if (want.equals("ok")) {
            check.due(place + line, 1, NAMES.containsValue(number) ? number : 1);
            return;
        }
        Integer named = NAMES.get(want);
        check.due(place + line, named != null ? named : Integer.parseInt(want), number);
    }

    private Object call(String name, String... words) throws ReflectiveOperationException {
        for (Method method : tested.getDeclaredMethods()) {
            if (method.getName().equals(name) && method.getParameterCount() == words.length) {
                Object[] values = new Object[words.length];
                for (int i = 0; i < words.length; i++) {
                    values[i] = valueOf(method.getParameterTypes()[i], words[i]);
                }
                return answerOf(method, values);
            }
        }
        throw new IllegalArgumentException("no method " + name + " with " + words.length + " arguments");
    }

    private Object answerOf(Method method, Object[] values) throws ReflectiveOperationException {
        try {
            return method.invoke(table, values);
        } catch (InvocationTargetException thrown) {
            check.due(place + method.getName(), "no exception", thrown.getCause().toString());
            return Integer.MIN_VALUE;
        }
    }

    private static Object valueOf(Class<?> type, String word) {
        if (type == boolean.class) {
            return Boolean.valueOf(word);
        }
        int number = Integer.parseInt(word);
        return type == char.class ? (Object) (char) number : (Object) number;
    }
}
