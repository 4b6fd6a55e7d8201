import java.util.ArrayList;
import java.util.List;
import java.util.Random;

/**
 * Long runs of calls, made from fixed seeds, on the class and on the Model; each answer of the
 * one is due from the other. The arguments are how many runs there are and the first seed.
 */
public final class ModelTest {
    // What is left of the 512 calls that the document promises answers for is for looks.
    private static final int CALLS = 440;
    private static final int LOOKS_EVERY = 110;
    private static final String SIGNS = "kv<>=#!()&|-0123456789 KV\u0000\u007f\u00ff\uffff";
    private static final int[] ODD = {-1, 0, 1, 59, 60, 61, 62, 999, 1000, 1001, -999, -1000,
        Integer.MIN_VALUE, Integer.MAX_VALUE};

    // The acts and how often they come, for each kind of run; what is left over only looks.
    private static final String[] ACTS = {"put", "stage", "take", "rekey", "addSlice", "dropSlice",
        "detach", "attach", "swap", "split", "merge", "useDefault", "mend", "set", "type",
        "clearText", "undo", "keep", "restore"};
    private static final int[][] WEIGHTS = {
        {20, 10, 5, 8, 6, 2, 4, 5, 6, 4, 4, 2, 4, 3, 20, 4, 4, 1, 1},
        {80, 2, 1, 3, 3, 0, 0, 0, 1, 1, 1, 0, 1, 1, 1, 1, 1, 1, 0},
        {4, 3, 1, 1, 30, 18, 2, 4, 1, 20, 12, 1, 1, 1, 1, 1, 3, 1, 1},
        {30, 40, 1, 2, 3, 1, 8, 8, 12, 2, 2, 1, 8, 1, 2, 1, 1, 1, 0},
        {8, 3, 1, 1, 3, 1, 1, 1, 2, 1, 1, 1, 0, 3, 60, 8, 1, 0, 0},
        {12, 6, 6, 12, 4, 3, 2, 2, 10, 4, 2, 6, 10, 2, 0, 0, 12, 5, 5},
    };

    private final Check check;
    private final Random random;
    private final Caller mine = new Caller(PrunedSlices.class);
    private final Caller model = new Caller(Model.class);
    private final List<String[]> calls = new ArrayList<>();
    private final List<String> answers = new ArrayList<>();
    private final int[] weights;
    private final int keyFrom;
    private final int keyWidth;
    private String pending = "";
    private boolean wrong;

    private ModelTest(Check check, long seed) {
        this.check = check;
        random = new Random(seed);
        weights = WEIGHTS[(int) (seed % WEIGHTS.length)];
        keyWidth = random.nextBoolean() ? 1000 : 1 + random.nextInt(60);
        keyFrom = random.nextInt(1001 - keyWidth);
    }

    public static void main(String[] args) {
        int runs = args.length > 0 ? Integer.parseInt(args[0]) : 500;
        long first = args.length > 1 ? Long.parseLong(args[1]) : 1;
        Check check = new Check("ModelTest");
        for (long seed = first; seed < first + runs && !check.isWrong(); seed++) {
            new ModelTest(check, seed).run(seed);
        }
        check.end();
    }

    private void run(long seed) {
        while (calls.size() < CALLS && !wrong) {
            int before = calls.size() / LOOKS_EVERY;
            if (random.nextInt(100) < 70) {
                act();
            } else {
                look();
            }
            if (calls.size() / LOOKS_EVERY > before) {
                looksAreDue(Looks.of(Model.class, calls), Looks.of(PrunedSlices.class, calls));
            }
        }
        looksAreDue(Looks.withPast(Model.class, calls), Looks.withPast(PrunedSlices.class, calls));
        if (wrong) {
            System.out.println("seed " + seed + ", the last calls:");
            for (int i = Math.max(0, answers.size() - 30); i < answers.size(); i++) {
                System.out.println("  " + answers.get(i));
            }
        }
    }

    private void due(Object... words) {
        if (calls.size() >= CALLS) {
            return;
        }
        String[] call = textsOf(words);
        String want = model.call(call);
        String got = mine.call(call);
        calls.add(call);
        answers.add(String.join(" ", call) + " = " + got);
        check.due(String.join(" ", call), want, got);
        wrong |= !want.equals(got);
    }

    private void looksAreDue(List<String> want, List<String> got) {
        check.due("looks behind call " + calls.size(), want.size(), got.size());
        wrong |= want.size() != got.size();
        for (int i = 0; i < Math.min(want.size(), got.size()); i++) {
            check.due("behind call " + calls.size(), want.get(i), got.get(i));
            wrong |= !want.get(i).equals(got.get(i));
        }
    }

    /** What the Model tells: the arguments of calls are made by it. */
    private int told(Object... words) {
        return Integer.parseInt(model.call(textsOf(words)));
    }

    private static String[] textsOf(Object... words) {
        String[] texts = new String[words.length];
        for (int i = 0; i < words.length; i++) {
            texts[i] = words[i].toString();
        }
        return texts;
    }

    private boolean oneIn(int many) {
        return random.nextInt(many) == 0;
    }

    private int odd() {
        return ODD[random.nextInt(ODD.length)];
    }

    private int key() {
        if (oneIn(25)) {
            return odd();
        }
        return oneIn(6) ? random.nextInt(1000) : keyFrom + random.nextInt(keyWidth);
    }

    private int value() {
        return oneIn(25) ? odd() : oneIn(2) ? random.nextInt(21) - 10 : random.nextInt(1999) - 999;
    }

    private int sliceNumber() {
        int slices = told("count", 0);
        if (slices > 0 && !oneIn(12)) {
            return told("ordered", random.nextInt(slices));
        }
        return oneIn(2) ? odd() : random.nextInt(63) - 1;
    }

    private int place() {
        return oneIn(4) ? 60 + random.nextInt(2) : sliceNumber();
    }

    private int rowNumber() {
        return oneIn(15) ? odd() : random.nextInt(told("count", 4) + 1);
    }

    private int rank(int many) {
        return oneIn(15) ? odd() : random.nextInt(many + 1);
    }

    /** Bounds: any, inside a gap, or those that the rows of the stage want. */
    private int[] bounds(boolean forStage) {
        int rows = told("count", 3);
        if (forStage && rows > 0 && !oneIn(3)) {
            int low = told("slice", 61, 3) - (oneIn(2) ? 0 : random.nextInt(9) - 2);
            int high = told("slice", 61, 4) + 1 + (oneIn(2) ? 0 : random.nextInt(9) - 2);
            return new int[] {low, high};
        }
        int gaps = told("count", 7);
        if (gaps > 0 && !oneIn(4)) {
            int gap = random.nextInt(gaps);
            int from = told("gap", gap, 0);
            int to = told("gap", gap, 1) + 1;
            int low = oneIn(3) ? from : from + random.nextInt(to - from);
            int high = oneIn(3) ? to : low + 1 + random.nextInt(Math.min(to - low, oneIn(2) ? 1000 : 40));
            return new int[] {low, high};
        }
        int low = key();
        return new int[] {low, oneIn(8) ? odd() : low + random.nextInt(60) - 2};
    }

    private void act() {
        int sum = 0;
        for (int weight : weights) {
            sum += weight;
        }
        int left = random.nextInt(sum);
        int act = 0;
        while (left >= weights[act]) {
            left -= weights[act];
            act++;
        }
        make(ACTS[act]);
    }

    private void make(String act) {
        int[] bounds = bounds(act.equals("attach"));
        switch (act) {
            case "put": case "stage": due(act, key(), value()); break;
            case "take": due(act, rowNumber()); break;
            case "rekey": due(act, rowNumber(), key()); break;
            case "addSlice": case "attach": due(act, bounds[0], bounds[1]); break;
            case "dropSlice": case "detach": due(act, sliceNumber()); break;
            case "swap": due(act, sliceNumber(), random.nextBoolean()); break;
            case "split": split(sliceNumber()); break;
            case "merge": merge(sliceNumber()); break;
            case "useDefault": due(act, random.nextBoolean()); break;
            case "set": setOne(); break;
            case "type": typeSome(); break;
            default: due(act);
        }
    }

    private void split(int slice) {
        int low = told("slice", slice, 0);
        int high = told("slice", slice, 1);
        int key = low >= 0 && !oneIn(5) ? low + random.nextInt(high - low + 1) : key();
        due("split", slice, key);
    }

    private void merge(int slice) {
        int other = sliceNumber();
        int slices = told("count", 0);
        if (slices > 1 && !oneIn(3)) {
            int rank = random.nextInt(slices - 1);
            int shift = random.nextInt(2);
            slice = told("ordered", rank + shift);
            other = told("ordered", rank + 1 - shift);
        }
        due("merge", slice, other);
    }

    private void setOne() {
        int which = oneIn(10) ? odd() : random.nextInt(2);
        int value = oneIn(10) ? odd() : random.nextInt(3);
        due("set", which, value);
    }

    private void typeSome() {
        if (pending.isEmpty()) {
            pending = someText();
            if (!oneIn(4)) {
                due("clearText");
            }
        }
        int many = oneIn(4) ? 1 + random.nextInt(pending.length()) : pending.length();
        for (int i = 0; i < many; i++) {
            char sign = pending.charAt(i);
            due("type", (int) sign);
            if (oneIn(3)) {
                due("fault");
            }
        }
        pending = pending.substring(many);
    }

    private String someText() {
        StringBuilder text = new StringBuilder();
        addQuestion(text, 0);
        if (oneIn(3)) {
            int at = random.nextInt(text.length());
            char sign = SIGNS.charAt(random.nextInt(SIGNS.length()));
            if (random.nextBoolean()) {
                text.insert(at, sign);
            } else {
                text.setCharAt(at, sign);
            }
        }
        return text.toString();
    }

    private void addQuestion(StringBuilder text, int depth) {
        addPart(text, depth);
        while (oneIn(3) && text.length() < 45) {
            text.append('|');
            addPart(text, depth);
        }
    }

    private void addPart(StringBuilder text, int depth) {
        addTest(text, depth);
        while (oneIn(3) && text.length() < 45) {
            text.append('&');
            addTest(text, depth);
        }
    }

    private void addTest(StringBuilder text, int depth) {
        while (oneIn(4)) {
            text.append('!');
        }
        if (depth < 6 && oneIn(3) && text.length() < 45) {
            text.append('(');
            addQuestion(text, depth + 1);
            text.append(')');
            return;
        }
        boolean ofKey = !oneIn(3);
        text.append(ofKey ? 'k' : 'v').append("<>=#".charAt(random.nextInt(4)));
        int number = ofKey ? Math.floorMod(someNumber(), 1000) : value();
        text.append(oneIn(12) ? "-0" : oneIn(15) ? "-" + Math.abs(number % 1000) : "" + number);
    }

    /** A key, most often a bound of a slice or a key beside it. */
    private int someNumber() {
        int slices = told("count", 0);
        if (slices > 0 && !oneIn(3)) {
            int slice = told("ordered", random.nextInt(slices));
            return told("slice", slice, random.nextInt(2)) + random.nextInt(3) - 1;
        }
        return key();
    }

    private void look() {
        switch (random.nextInt(14)) {
            case 0: due("count", what(13)); break;
            case 1: due("row", rowNumber(), what(5)); break;
            case 2: due("slice", place(), what(7)); break;
            case 3: due("lies", place(), rank(30)); break;
            case 4: due("gap", rank(told("count", 7)), what(2)); break;
            case 5: due("ordered", rank(12)); break;
            case 6: due("stray", rank(told("count", 5))); break;
            case 7: due("belongs", key()); break;
            case 8: due("ask", what(6)); break;
            case 9: due("answer", rank(Math.max(0, told("ask", 0)))); break;
            case 10: due("looksInto", place(), what(3)); break;
            case 11: due("passes", rowNumber()); break;
            case 12: due(oneIn(2) ? "unfit" : "bestSplit", place()); break;
            default: due(oneIn(2) ? "spared" : "heaviest");
        }
    }

    private int what(int many) {
        return oneIn(9) ? odd() : random.nextInt(many + 2) - 1;
    }
}
