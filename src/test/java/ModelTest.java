import java.util.ArrayList;
import java.util.List;
import java.util.Random;

/**
 * Long runs of calls, made from fixed seeds, on the class and on the Model; each answer of the
 * one is due from the other. The arguments are how many runs there are and the first seed.
 */
public final class ModelTest {
    private static final int CALLS = 512;
    private static final String SIGNS = "kv<>=#!()&|-0123456789 KV\u0000\u007f\u00ff\uffff";
    private static final int[] ODD = {-1, 0, 1, 59, 60, 61, 62, 999, 1000, 1001, -999, -1000,
        Integer.MIN_VALUE, Integer.MAX_VALUE};

    // The acts and how often they come, for each kind of run; what is left over only looks.
    private static final String[] ACTS = {"put", "stage", "take", "rekey", "addSlice", "dropSlice",
        "detach", "attach", "swap", "split", "merge", "useDefault", "mend", "set", "type",
        "clearText", "undo", "keep", "restore"};
    private static final int[][] WEIGHTS = {
        {20, 10, 5, 8, 6, 2, 4, 5, 6, 4, 4, 2, 4, 3, 20, 4, 4, 1, 1},
        {80, 2, 1, 3, 3, 0, 0, 0, 1, 1, 1, 0, 1, 1, 1, 1, 1, 1, 0},
        {4, 3, 1, 1, 30, 18, 2, 4, 1, 20, 12, 1, 1, 1, 1, 1, 3, 1, 1},
        {30, 40, 1, 2, 3, 1, 8, 8, 12, 2, 2, 1, 8, 1, 2, 1, 1, 1, 0},
        {8, 3, 1, 1, 3, 1, 1, 1, 2, 1, 1, 1, 0, 3, 60, 8, 1, 0, 0},
        {12, 6, 6, 12, 4, 3, 2, 2, 10, 4, 2, 6, 10, 2, 0, 0, 12, 5, 5},
    };

    private final Check check;
    private final Random random;
    private final PrunedSlices mine = new PrunedSlices();
    private final Model model = new Model();
    private final List<String> calls = new ArrayList<>();
    private final int[] weights;
    private final int keyFrom;
    private final int keyWidth;
    private String pending = "";
    private boolean wrong;

    private ModelTest(Check check, long seed) {
        this.check = check;
        random = new Random(seed);
        weights = WEIGHTS[(int) (seed % WEIGHTS.length)];
        keyWidth = random.nextBoolean() ? 1000 : 1 + random.nextInt(60);
        keyFrom = random.nextInt(1001 - keyWidth);
    }

    public static void main(String[] args) {
        int runs = args.length > 0 ? Integer.parseInt(args[0]) : 300;
        long first = args.length > 1 ? Long.parseLong(args[1]) : 1;
        Check check = new Check("ModelTest");
        for (long seed = first; seed < first + runs && !check.isWrong(); seed++) {
            new ModelTest(check, seed).run(seed);
        }
        check.end();
    }

    private void run(long seed) {
        for (int call = 0; call < CALLS && !wrong; call++) {
            if (random.nextInt(100) < 70) {
                act();
            } else {
                look();
            }
            if (call % 32 == 31) {
                lookAtAll();
            }
        }
        if (wrong) {
            System.out.println("seed " + seed + ", the last calls:");
            for (int i = Math.max(0, calls.size() - 30); i < calls.size(); i++) {
                System.out.println("  " + calls.get(i));
            }
        }
    }

    private void due(String call, long want, long got) {
        calls.add(call + " = " + got);
        check.due(call, want, got);
        wrong |= want != got;
    }

    private boolean oneIn(int many) {
        return random.nextInt(many) == 0;
    }

    private int odd() {
        return ODD[random.nextInt(ODD.length)];
    }

    private int key() {
        if (oneIn(25)) {
            return odd();
        }
        return oneIn(6) ? random.nextInt(1000) : keyFrom + random.nextInt(keyWidth);
    }

    private int value() {
        return oneIn(25) ? odd() : oneIn(2) ? random.nextInt(21) - 10 : random.nextInt(1999) - 999;
    }

    private int sliceNumber() {
        int slices = model.count(0);
        if (slices > 0 && !oneIn(12)) {
            return model.ordered(random.nextInt(slices));
        }
        return oneIn(2) ? odd() : random.nextInt(63) - 1;
    }

    private int place() {
        return oneIn(4) ? 60 + random.nextInt(2) : sliceNumber();
    }

    private int rowNumber() {
        return oneIn(15) ? odd() : random.nextInt(model.count(4) + 1);
    }

    private int rank(int many) {
        return oneIn(15) ? odd() : random.nextInt(many + 1);
    }

    /** Bounds: any, inside a gap, or those that the rows of the stage want. */
    private int[] bounds(boolean forStage) {
        int rows = model.count(3);
        if (forStage && rows > 0 && !oneIn(3)) {
            int low = model.slice(61, 3) - (oneIn(2) ? 0 : random.nextInt(9) - 2);
            int high = model.slice(61, 4) + 1 + (oneIn(2) ? 0 : random.nextInt(9) - 2);
            return new int[] {low, high};
        }
        int gaps = model.count(7);
        if (gaps > 0 && !oneIn(4)) {
            int gap = random.nextInt(gaps);
            int from = model.gap(gap, 0);
            int to = model.gap(gap, 1) + 1;
            int low = oneIn(3) ? from : from + random.nextInt(to - from);
            int high = oneIn(3) ? to : low + 1 + random.nextInt(Math.min(to - low, oneIn(2) ? 1000 : 40));
            return new int[] {low, high};
        }
        int low = key();
        return new int[] {low, oneIn(8) ? odd() : low + random.nextInt(60) - 2};
    }

    private void act() {
        int sum = 0;
        for (int weight : weights) {
            sum += weight;
        }
        int left = random.nextInt(sum);
        int act = 0;
        while (left >= weights[act]) {
            left -= weights[act];
            act++;
        }
        switch (ACTS[act]) {
            case "put": put(); break;
            case "stage": stage(); break;
            case "take": take(); break;
            case "rekey": rekey(); break;
            case "type": typeSome(); break;
            case "clearText": due("clearText()", model.clearText(), mine.clearText()); break;
            case "undo": due("undo()", model.undo(), mine.undo()); break;
            case "keep": due("keep()", model.keep(), mine.keep()); break;
            case "restore": due("restore()", model.restore(), mine.restore()); break;
            default: actOnSlices(ACTS[act]);
        }
    }

    private void put() {
        int key = key();
        int value = value();
        due("put(" + key + ", " + value + ")", model.put(key, value), mine.put(key, value));
    }

    private void stage() {
        int key = key();
        int value = value();
        due("stage(" + key + ", " + value + ")", model.stage(key, value), mine.stage(key, value));
    }

    private void take() {
        int row = rowNumber();
        due("take(" + row + ")", model.take(row), mine.take(row));
    }

    private void rekey() {
        int row = rowNumber();
        int key = key();
        due("rekey(" + row + ", " + key + ")", model.rekey(row, key), mine.rekey(row, key));
    }

    private void actOnSlices(String act) {
        int slice = sliceNumber();
        boolean is = random.nextBoolean();
        int[] bounds = bounds(act.equals("attach"));
        String told = act + "(" + slice + ")";
        String between = act + "(" + bounds[0] + ", " + bounds[1] + ")";
        switch (act) {
            case "addSlice":
                due(between, model.addSlice(bounds[0], bounds[1]), mine.addSlice(bounds[0], bounds[1]));
                break;
            case "attach":
                due(between, model.attach(bounds[0], bounds[1]), mine.attach(bounds[0], bounds[1]));
                break;
            case "dropSlice": due(told, model.dropSlice(slice), mine.dropSlice(slice)); break;
            case "detach": due(told, model.detach(slice), mine.detach(slice)); break;
            case "swap":
                due("swap(" + slice + ", " + is + ")", model.swap(slice, is), mine.swap(slice, is));
                break;
            case "split": split(slice); break;
            case "merge": merge(slice); break;
            case "useDefault":
                due("useDefault(" + is + ")", model.useDefault(is), mine.useDefault(is));
                break;
            case "mend": due("mend()", model.mend(), mine.mend()); break;
            default: setOne();
        }
    }

    private void split(int slice) {
        int low = model.slice(slice, 0);
        int high = model.slice(slice, 1);
        int key = low >= 0 && !oneIn(5) ? low + random.nextInt(high - low + 1) : key();
        due("split(" + slice + ", " + key + ")", model.split(slice, key), mine.split(slice, key));
    }

    private void merge(int slice) {
        int other = sliceNumber();
        int slices = model.count(0);
        if (slices > 1 && !oneIn(3)) {
            int rank = random.nextInt(slices - 1);
            int shift = random.nextInt(2);
            slice = model.ordered(rank + shift);
            other = model.ordered(rank + 1 - shift);
        }
        due("merge(" + slice + ", " + other + ")", model.merge(slice, other), mine.merge(slice, other));
    }

    private void setOne() {
        int which = oneIn(10) ? odd() : random.nextInt(2);
        int value = oneIn(10) ? odd() : random.nextInt(3);
        due("set(" + which + ", " + value + ")", model.set(which, value), mine.set(which, value));
    }

    private void typeSome() {
        if (pending.isEmpty()) {
            pending = someText();
            if (!oneIn(4)) {
                due("clearText()", model.clearText(), mine.clearText());
            }
        }
        int many = oneIn(4) ? 1 + random.nextInt(pending.length()) : pending.length();
        for (int i = 0; i < many; i++) {
            char sign = pending.charAt(i);
            due("type((char) " + (int) sign + ")", model.type(sign), mine.type(sign));
            due("fault()", model.fault(), mine.fault());
        }
        pending = pending.substring(many);
    }

    private String someText() {
        StringBuilder text = new StringBuilder();
        addQuestion(text, 0);
        if (oneIn(3)) {
            int at = random.nextInt(text.length());
            char sign = SIGNS.charAt(random.nextInt(SIGNS.length()));
            if (random.nextBoolean()) {
                text.insert(at, sign);
            } else {
                text.setCharAt(at, sign);
            }
        }
        return text.toString();
    }

    private void addQuestion(StringBuilder text, int depth) {
        addPart(text, depth);
        while (oneIn(3) && text.length() < 45) {
            text.append('|');
            addPart(text, depth);
        }
    }

    private void addPart(StringBuilder text, int depth) {
        addTest(text, depth);
        while (oneIn(3) && text.length() < 45) {
            text.append('&');
            addTest(text, depth);
        }
    }

    private void addTest(StringBuilder text, int depth) {
        while (oneIn(4)) {
            text.append('!');
        }
        if (depth < 6 && oneIn(3) && text.length() < 45) {
            text.append('(');
            addQuestion(text, depth + 1);
            text.append(')');
            return;
        }
        boolean ofKey = !oneIn(3);
        text.append(ofKey ? 'k' : 'v').append("<>=#".charAt(random.nextInt(4)));
        int number = ofKey ? Math.floorMod(someNumber(), 1000) : value();
        text.append(oneIn(12) ? "-0" : oneIn(15) ? "-" + Math.abs(number % 1000) : "" + number);
    }

    /** A key, most often a bound of a slice or a key beside it. */
    private int someNumber() {
        int slices = model.count(0);
        if (slices > 0 && !oneIn(3)) {
            int slice = model.ordered(random.nextInt(slices));
            return model.slice(slice, random.nextInt(2)) + random.nextInt(3) - 1;
        }
        return key();
    }

    private void look() {
        switch (random.nextInt(12)) {
            case 0: lookAtCount(oneIn(9) ? odd() : random.nextInt(14) - 1); break;
            case 1: lookAtRow(rowNumber(), oneIn(9) ? odd() : random.nextInt(6)); break;
            case 2: lookAtSlice(place(), oneIn(9) ? odd() : random.nextInt(8)); break;
            case 3: lookAtLies(place(), rank(30)); break;
            case 4: lookAtGap(rank(model.count(7)), oneIn(9) ? odd() : random.nextInt(2)); break;
            case 5: lookAtRanks(rank(12)); break;
            case 6: lookAtKey(key()); break;
            case 7: lookAtAsk(oneIn(9) ? odd() : random.nextInt(6)); break;
            case 8: lookAtAnswer(rank(Math.max(0, model.ask(0)))); break;
            case 9: lookAtLooksInto(place(), oneIn(9) ? odd() : random.nextInt(3)); break;
            case 10: lookAtWouldBe(place()); break;
            default: lookAtPasses(rowNumber());
        }
    }

    private void lookAtAll() {
        for (int what = 0; what < 13; what++) {
            lookAtCount(what);
        }
        for (int row = 0; row < model.count(4); row++) {
            for (int what = 0; what < 5; what++) {
                lookAtRow(row, what);
            }
            lookAtPasses(row);
        }
        for (int place = -1; place < 63; place++) {
            for (int what = 0; what < 7; what++) {
                lookAtSlice(place, what);
            }
            for (int rank = 0; rank < 31; rank++) {
                lookAtLies(place, rank);
            }
            for (int pruning = 0; pruning < 3; pruning++) {
                lookAtLooksInto(place, pruning);
            }
            lookAtWouldBe(place);
        }
        for (int rank = 0; rank < 14; rank++) {
            lookAtRanks(rank);
            lookAtGap(rank, 0);
            lookAtGap(rank, 1);
            lookAtAnswer(rank);
        }
        for (int what = 0; what < 6; what++) {
            lookAtAsk(what);
        }
        for (int key = 0; key < 1000; key += 7) {
            lookAtKey(key);
        }
    }

    private void lookAtCount(int what) {
        due("count(" + what + ")", model.count(what), mine.count(what));
    }

    private void lookAtRow(int row, int what) {
        due("row(" + row + ", " + what + ")", model.row(row, what), mine.row(row, what));
    }

    private void lookAtSlice(int slice, int what) {
        due("slice(" + slice + ", " + what + ")", model.slice(slice, what), mine.slice(slice, what));
    }

    private void lookAtLies(int slice, int rank) {
        due("lies(" + slice + ", " + rank + ")", model.lies(slice, rank), mine.lies(slice, rank));
    }

    private void lookAtGap(int rank, int what) {
        due("gap(" + rank + ", " + what + ")", model.gap(rank, what), mine.gap(rank, what));
    }

    private void lookAtRanks(int rank) {
        due("ordered(" + rank + ")", model.ordered(rank), mine.ordered(rank));
        due("stray(" + rank + ")", model.stray(rank), mine.stray(rank));
    }

    private void lookAtKey(int key) {
        due("belongs(" + key + ")", model.belongs(key), mine.belongs(key));
    }

    private void lookAtAsk(int what) {
        due("ask(" + what + ")", model.ask(what), mine.ask(what));
        double want = model.spared();
        double got = mine.spared();
        check.due("spared()", want, got);
        wrong |= want != got;
    }

    private void lookAtAnswer(int rank) {
        due("answer(" + rank + ")", model.answer(rank), mine.answer(rank));
    }

    private void lookAtLooksInto(int slice, int pruning) {
        due("looksInto(" + slice + ", " + pruning + ")", model.looksInto(slice, pruning), mine.looksInto(slice, pruning));
    }

    private void lookAtWouldBe(int slice) {
        due("unfit(" + slice + ")", model.unfit(slice), mine.unfit(slice));
        due("bestSplit(" + slice + ")", model.bestSplit(slice), mine.bestSplit(slice));
        due("heaviest()", model.heaviest(), mine.heaviest());
    }

    private void lookAtPasses(int row) {
        due("passes(" + row + ")", model.passes(row), mine.passes(row));
    }
}
