import java.util.ArrayList;
import java.util.List;
import java.util.Map;
import java.util.stream.Stream;

/** Runs the lines of a script on the class or on a Model. README.md tells what a line says. */
final class Script {
    private static final Map<String, String> NAMES = Map.of("UNKNOWN", "-1001", "BAD_VALUE", "-1002",
            "FULL", "-1003", "NOT_POSSIBLE", "-1004", "NONE", "-1005");

    private final Check check;
    private final Class<?> tested;
    private final List<String[]> calls = new ArrayList<>();
    private Caller caller;
    private String place = "";

    Script(Check check, Class<?> tested) {
        this.check = check;
        this.tested = tested;
        makeNew();
    }

    void run(String file, int number, String line) {
        place = tested.getName() + ", " + file + ":" + number + ": ";
        if (line.equals("new")) {
            makeNew();
        } else if (!line.isEmpty() && line.charAt(0) != '#') {
            runLine(line);
        }
    }

    boolean isWrong() {
        return check.isWrong();
    }

    private void makeNew() {
        calls.clear();
        caller = new Caller(tested);
    }

    private void runLine(String line) {
        int sign = line.lastIndexOf(" = ");
        String want = line.substring(sign + 3);
        String[] words = line.substring(0, sign).split(" ");
        int times = 1;
        if (words[0].matches("x\\d+")) {
            times = Integer.parseInt(words[0].substring(1));
            words = Stream.of(words).skip(1).toArray(String[]::new);
        }
        for (int i = 0; i < times; i++) {
            runWords(line, words, want);
        }
    }

    private void runWords(String line, String[] words, String want) {
        switch (words[0]) {
            case "text":
                due(line, want, type(words[1]));
                break;
            case "faultOf":
                type(words[1]);
                due(line, want, call("fault"));
                break;
            case "passesOf":
                type(words[2]);
                due(line, want, call("passes", words[1]));
                break;
            case "both":
                type(words[2]);
                due(line, want, call("looksInto", words[1], "1"));
                due(line, want, call("looksInto", words[1], "2"));
                break;
            case "refused":
                refused(line, Stream.of(words).skip(1).toArray(String[]::new), want);
                break;
            case "fillAndDrop":
                due(line, want, fillAndDrop(Integer.parseInt(words[1])));
                break;
            case "addAndDrop":
                due(line, want, call("dropSlice", call("addSlice", "5", "6")));
                break;
            default:
                due(line, want, call(words));
        }
    }

    private String type(String text) {
        String answer = call("clearText");
        for (char sign : text.toCharArray()) {
            answer = call("type", Integer.toString(sign));
        }
        return answer;
    }

    private String fillAndDrop(int rows) {
        String slice = call("addSlice", "0", "1000");
        for (int i = 0; i < rows; i++) {
            call("put", "5", "0");
        }
        return call("dropSlice", slice);
    }

    /** Makes a call that changes nothing: all looks, also into the past, are the same behind it. */
    private void refused(String line, String[] words, String want) {
        List<String> before = Looks.withPast(tested, calls);
        due(line, want, call(words));
        List<String> behind = Looks.withPast(tested, calls);
        check.due(place + line + ", answers behind it", before.size(), behind.size());
        for (int i = 0; i < Math.min(before.size(), behind.size()); i++) {
            check.due(place + line + ", behind it", before.get(i), behind.get(i));
        }
    }

    private String call(String... words) {
        calls.add(words);
        return caller.call(words);
    }

    private void due(String line, String want, String got) {
        if (want.equals("ok")) {
            check.due(place + line, "ok", NAMES.containsValue(got) || !isNumber(got) ? got : "ok");
        } else {
            check.due(place + line, NAMES.getOrDefault(want, want), got);
        }
    }

    private static boolean isNumber(String answer) {
        return answer.matches("-?[0-9]+");
    }
}
