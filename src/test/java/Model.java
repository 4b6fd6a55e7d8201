import java.util.ArrayDeque;
import java.util.ArrayList;
import java.util.Deque;
import java.util.List;
import java.util.Map;
import java.util.TreeMap;
import java.util.TreeSet;

/**
 * The document once more, said as its words go and without a thought of cost: every key is
 * asked on its own, states are copied whole, questions are trees. ModelTest holds the class to it.
 */
final class Model {
    static final int UNKNOWN = -1001;
    static final int BAD_VALUE = -1002;
    static final int FULL = -1003;
    static final int NOT_POSSIBLE = -1004;
    static final int NONE = -1005;

    private static final class Row {
        int key;
        int value;
        int place;

        Row(int key, int value, int place) {
            this.key = key;
            this.value = value;
            this.place = place;
        }
    }

    private static final class State {
        TreeMap<Integer, Row> rows = new TreeMap<>();
        TreeMap<Integer, int[]> slices = new TreeMap<>();
        int rowsCame;
        int slicesCame;
        boolean on = true;
        int[] settings = {0, 0};

        State copy() {
            State copy = new State();
            rows.forEach((number, row) -> copy.rows.put(number, new Row(row.key, row.value, row.place)));
            slices.forEach((number, bounds) -> copy.slices.put(number, bounds.clone()));
            copy.rowsCame = rowsCame;
            copy.slicesCame = slicesCame;
            copy.on = on;
            copy.settings = settings.clone();
            return copy;
        }
    }

    private State now = new State();
    private final Deque<State> past = new ArrayDeque<>();
    private State kept;
    private String text = "";

    private void act() {
        past.addLast(now.copy());
        if (past.size() > 4) {
            past.removeFirst();
        }
    }

    private Integer owner(int key) {
        for (Map.Entry<Integer, int[]> slice : now.slices.entrySet()) {
            if (slice.getValue()[0] <= key && key < slice.getValue()[1]) {
                return slice.getKey();
            }
        }
        return null;
    }

    private int home(int key) {
        Integer owner = owner(key);
        return owner != null ? owner : now.on ? 60 : NONE;
    }

    private List<Integer> at(int place) {
        List<Integer> numbers = new ArrayList<>();
        now.rows.forEach((number, row) -> {
            if (row.place == place) {
                numbers.add(number);
            }
        });
        return numbers;
    }

    private boolean isStray(int number) {
        Row row = now.rows.get(number);
        return row.place != 61 && home(row.key) != row.place;
    }

    private List<Integer> strays() {
        List<Integer> numbers = new ArrayList<>();
        for (int number : now.rows.keySet()) {
            if (isStray(number)) {
                numbers.add(number);
            }
        }
        return numbers;
    }

    private boolean badKey(int key) {
        return key < 0 || key > 999;
    }

    private boolean badValue(int value) {
        return value < -999 || value > 999;
    }

    private boolean badBounds(int low, int high) {
        return low < 0 || low > 999 || high <= low || high > 1000;
    }

    private boolean has(int slice, int key) {
        int[] bounds = now.slices.get(slice);
        return bounds[0] <= key && key < bounds[1];
    }

    private boolean someOwned(int low, int high) {
        for (int key = low; key < high; key++) {
            if (owner(key) != null) {
                return true;
            }
        }
        return false;
    }

    private int in(int place, int low, int high) {
        return (int) at(place).stream().filter(r -> now.rows.get(r).key >= low && now.rows.get(r).key < high).count();
    }

    private boolean noSliceMore() {
        return now.slices.size() == 12 || now.slicesCame == 60;
    }

    private int newRow(int key, int value, int place) {
        now.rows.put(now.rowsCame, new Row(key, value, place));
        return now.rowsCame++;
    }

    private int newSlice(int low, int high) {
        now.slices.put(now.slicesCame, new int[] {low, high});
        return now.slicesCame++;
    }

    int put(int key, int value) {
        if (badKey(key) || badValue(value)) return BAD_VALUE;
        if (home(key) == NONE) return NOT_POSSIBLE;
        if (at(home(key)).size() == 30 || now.rowsCame == 400) return FULL;
        act();
        return newRow(key, value, home(key));
    }

    int stage(int key, int value) {
        if (badKey(key) || badValue(value)) return BAD_VALUE;
        if (at(61).size() == 20 || now.rowsCame == 400) return FULL;
        act();
        return newRow(key, value, 61);
    }

    int take(int row) {
        if (!now.rows.containsKey(row)) return UNKNOWN;
        act();
        return now.rows.remove(row).key;
    }

    int rekey(int number, int key) {
        if (!now.rows.containsKey(number)) return UNKNOWN;
        if (badKey(key)) return BAD_VALUE;
        Row row = now.rows.get(number);
        int old = row.key;
        if (old == key) return NONE;
        if (row.place != 61) {
            if (home(key) == NONE) return NOT_POSSIBLE;
            if (home(key) != row.place && at(home(key)).size() == 30) return FULL;
        }
        act();
        row.key = key;
        if (row.place != 61) row.place = home(key);
        return old;
    }

    int addSlice(int low, int high) {
        if (badBounds(low, high)) return BAD_VALUE;
        if (someOwned(low, high)) return NOT_POSSIBLE;
        if (in(60, low, high) > 0 && now.settings[1] == 0) return NOT_POSSIBLE;
        if (noSliceMore()) return FULL;
        act();
        int slice = newSlice(low, high);
        for (int row : at(60)) {
            if (has(slice, now.rows.get(row).key)) now.rows.get(row).place = slice;
        }
        return slice;
    }

    int dropSlice(int slice) {
        if (!now.slices.containsKey(slice)) return UNKNOWN;
        act();
        List<Integer> gone = at(slice);
        now.rows.keySet().removeAll(gone);
        now.slices.remove(slice);
        return gone.size();
    }

    int detach(int slice) {
        if (!now.slices.containsKey(slice)) return UNKNOWN;
        if (!at(61).isEmpty()) return NOT_POSSIBLE;
        if (at(slice).size() > 20) return FULL;
        act();
        for (int row : at(slice)) now.rows.get(row).place = 61;
        now.slices.remove(slice);
        return at(61).size();
    }

    int attach(int low, int high) {
        if (badBounds(low, high)) return BAD_VALUE;
        if (someOwned(low, high)) return NOT_POSSIBLE;
        if (in(61, low, high) < at(61).size()) return NOT_POSSIBLE;
        if (in(60, low, high) > 0) return NOT_POSSIBLE;
        if (noSliceMore()) return FULL;
        act();
        int slice = newSlice(low, high);
        for (int row : at(61)) now.rows.get(row).place = slice;
        return slice;
    }

    int swap(int slice, boolean checked) {
        if (!now.slices.containsKey(slice)) return UNKNOWN;
        if (checked && unfit(slice) > 0) return NOT_POSSIBLE;
        if (at(slice).size() > 20) return FULL;
        act();
        List<Integer> inside = at(slice);
        List<Integer> waiting = at(61);
        for (int row : inside) now.rows.get(row).place = 61;
        for (int row : waiting) now.rows.get(row).place = slice;
        return waiting.size();
    }

    int split(int slice, int key) {
        if (!now.slices.containsKey(slice)) return UNKNOWN;
        int[] bounds = now.slices.get(slice);
        if (key <= bounds[0] || key >= bounds[1]) return BAD_VALUE;
        if (noSliceMore()) return FULL;
        act();
        int fresh = newSlice(key, bounds[1]);
        bounds[1] = key;
        for (int row : at(slice)) {
            if (has(fresh, now.rows.get(row).key)) now.rows.get(row).place = fresh;
        }
        return fresh;
    }

    int merge(int slice, int other) {
        if (!now.slices.containsKey(slice) || !now.slices.containsKey(other)) return UNKNOWN;
        int[] one = now.slices.get(slice);
        int[] two = now.slices.get(other);
        if (slice == other || one[0] != two[1] && one[1] != two[0]) return NOT_POSSIBLE;
        if (at(slice).size() + at(other).size() > 30) return FULL;
        act();
        for (int row : at(slice)) now.rows.get(row).place = other;
        if (one[1] == two[0]) two[0] = one[0]; else two[1] = one[1];
        now.slices.remove(slice);
        return at(other).size();
    }

    int useDefault(boolean on) {
        if (now.on == on) return NONE;
        if (!on && !at(60).isEmpty()) return NOT_POSSIBLE;
        act();
        now.on = on;
        return freeKeys().size();
    }

    int mend() {
        List<Integer> strays = strays();
        if (strays.isEmpty()) return NONE;
        for (int row : strays) {
            if (home(now.rows.get(row).key) == NONE) return NOT_POSSIBLE;
        }
        State before = now.copy();
        for (int row : strays) {
            int to = home(now.rows.get(row).key);
            if (at(to).size() == 30) {
                now = before;
                return FULL;
            }
            now.rows.get(row).place = to;
        }
        State after = now;
        now = before;
        act();
        now = after;
        return strays.size();
    }

    int set(int which, int value) {
        if (which != 0 && which != 1) return BAD_VALUE;
        if (value < 0 || which == 0 && value > 2 || which == 1 && value > 1) return BAD_VALUE;
        int old = now.settings[which];
        if (old == value) return NONE;
        act();
        now.settings[which] = value;
        return old;
    }

    int type(char character) {
        if (text.length() == 60) return FULL;
        text += character;
        return text.length();
    }

    int clearText() {
        int length = text.length();
        text = "";
        return length;
    }

    int fault() {
        try {
            new ModelQuestion(text);
            return NONE;
        } catch (ModelQuestion.Fault fault) {
            return fault.index;
        }
    }

    private ModelQuestion question() {
        return fault() == NONE ? new ModelQuestion(text) : null;
    }

    int undo() {
        if (past.isEmpty()) return NONE;
        now = past.removeLast();
        return past.size();
    }

    int keep() {
        kept = now.copy();
        return now.slices.size();
    }

    int restore() {
        if (kept == null) return NONE;
        act();
        now = kept.copy();
        return now.slices.size();
    }

    int row(int number, int what) {
        if (!now.rows.containsKey(number)) return UNKNOWN;
        Row row = now.rows.get(number);
        if (what == 0) return row.key;
        if (what == 1) return row.value;
        if (what == 2) return row.place;
        if (what == 3) return home(row.key);
        if (what == 4) return isStray(number) ? 1 : 0;
        return BAD_VALUE;
    }

    private boolean isPlace(int place) {
        return place == 60 || place == 61 || now.slices.containsKey(place);
    }

    int slice(int slice, int what) {
        if (!isPlace(slice)) return UNKNOWN;
        if (what < 0 || what > 6) return BAD_VALUE;
        if (what < 2) return slice >= 60 ? NONE : now.slices.get(slice)[what];
        int least = 1000;
        int greatest = -1;
        int sum = 0;
        int strays = 0;
        for (int number : at(slice)) {
            Row row = now.rows.get(number);
            least = Math.min(least, row.key);
            greatest = Math.max(greatest, row.key);
            sum += row.value;
            strays += isStray(number) ? 1 : 0;
        }
        if (what == 2) return at(slice).size();
        if (what == 3) return least == 1000 ? NONE : least;
        if (what == 4) return greatest == -1 ? NONE : greatest;
        return what == 5 ? sum : strays;
    }

    private static int ranked(List<Integer> list, int rank) {
        if (rank < 0) return BAD_VALUE;
        return rank < list.size() ? list.get(rank) : NONE;
    }

    int ordered(int rank) {
        List<Integer> order = new ArrayList<>(now.slices.keySet());
        order.sort((one, two) -> now.slices.get(one)[0] - now.slices.get(two)[0]);
        return ranked(order, rank);
    }

    int lies(int slice, int rank) {
        if (!isPlace(slice)) return UNKNOWN;
        List<Integer> order = at(slice);
        order.sort((one, two) -> now.rows.get(one).key != now.rows.get(two).key
                ? now.rows.get(one).key - now.rows.get(two).key : one - two);
        return ranked(order, rank);
    }

    int belongs(int key) {
        return badKey(key) ? BAD_VALUE : home(key);
    }

    private TreeSet<Integer> freeKeys() {
        TreeSet<Integer> free = new TreeSet<>();
        for (int key = 0; key < 1000; key++) {
            if (owner(key) == null) free.add(key);
        }
        return free;
    }

    private List<int[]> gaps() {
        List<int[]> gaps = new ArrayList<>();
        for (int key : freeKeys()) {
            if (!gaps.isEmpty() && gaps.get(gaps.size() - 1)[1] == key - 1) {
                gaps.get(gaps.size() - 1)[1] = key;
            } else {
                gaps.add(new int[] {key, key});
            }
        }
        return gaps;
    }

    int gap(int rank, int what) {
        if (rank < 0 || what != 0 && what != 1) return BAD_VALUE;
        List<int[]> gaps = gaps();
        return rank < gaps.size() ? gaps.get(rank)[what] : NONE;
    }

    int stray(int rank) {
        return ranked(strays(), rank);
    }

    int count(int what) {
        switch (what) {
            case 0: return now.slices.size();
            case 1: return now.slicesCame;
            case 2: return now.rows.size() - at(61).size();
            case 3: return at(61).size();
            case 4: return now.rowsCame;
            case 5: return strays().size();
            case 6: return now.on ? 1 : 0;
            case 7: return gaps().size();
            case 8: return freeKeys().size();
            case 9: return now.settings[0];
            case 10: return now.settings[1];
            case 11: return past.size();
            case 12: return text.length();
            default: return BAD_VALUE;
        }
    }

    private boolean isLooked(ModelQuestion question, int slice, int pruning) {
        if (slice == 60) {
            return now.on && (pruning < 2 || freeKeys().stream().anyMatch(question::isNotFalse));
        }
        int[] bounds = now.slices.get(slice);
        if (pruning == 1) return question.canHold(bounds[0], bounds[1] - 1);
        for (int key = bounds[0]; pruning == 2 && key < bounds[1]; key++) {
            if (question.isNotFalse(key)) return true;
        }
        return pruning == 0;
    }

    private TreeSet<Integer> lookedInto(ModelQuestion question) {
        TreeSet<Integer> slices = new TreeSet<>();
        for (int slice : now.slices.keySet()) {
            if (isLooked(question, slice, now.settings[0])) slices.add(slice);
        }
        if (isLooked(question, 60, now.settings[0])) slices.add(60);
        return slices;
    }

    private List<Integer> answerOf(ModelQuestion question, TreeSet<Integer> places) {
        List<Integer> rows = new ArrayList<>();
        now.rows.forEach((number, row) -> {
            if (places.contains(row.place) && question.passes(row.key, row.value)) rows.add(number);
        });
        return rows;
    }

    private TreeSet<Integer> wholeTable() {
        TreeSet<Integer> slices = new TreeSet<>(now.slices.keySet());
        if (now.on) slices.add(60);
        return slices;
    }

    private int rowsIn(TreeSet<Integer> slices) {
        return slices.stream().mapToInt(slice -> at(slice).size()).sum();
    }

    int ask(int what) {
        ModelQuestion question = question();
        if (question == null) return UNKNOWN;
        if (what < 0 || what > 5) return BAD_VALUE;
        TreeSet<Integer> places = lookedInto(question);
        List<Integer> rows = answerOf(question, places);
        int whole = answerOf(question, wholeTable()).size();
        if (what == 0) return rows.size();
        if (what == 1) return rows.stream().mapToInt(row -> now.rows.get(row).value).sum();
        if (what == 2) return places.size();
        if (what == 3) return rowsIn(places);
        return what == 4 ? whole : whole - rows.size();
    }

    int answer(int rank) {
        ModelQuestion question = question();
        return question == null ? UNKNOWN : ranked(answerOf(question, lookedInto(question)), rank);
    }

    int looksInto(int slice, int pruning) {
        ModelQuestion question = question();
        if (slice == 61 || !isPlace(slice) || question == null) return UNKNOWN;
        if (pruning < 0 || pruning > 2) return BAD_VALUE;
        return isLooked(question, slice, pruning) ? 1 : 0;
    }

    int passes(int row) {
        ModelQuestion question = question();
        if (!now.rows.containsKey(row) || question == null) return UNKNOWN;
        return question.passes(now.rows.get(row).key, now.rows.get(row).value) ? 1 : 0;
    }

    double spared() {
        ModelQuestion question = question();
        if (question == null) return -1.0;
        if (count(2) == 0) return 0.0;
        return 1.0 - (double) rowsIn(lookedInto(question)) / count(2);
    }

    int unfit(int slice) {
        if (!now.slices.containsKey(slice)) return UNKNOWN;
        return (int) at(61).stream().filter(row -> !has(slice, now.rows.get(row).key)).count();
    }

    int bestSplit(int slice) {
        if (!now.slices.containsKey(slice)) return UNKNOWN;
        int best = NONE;
        int least = Integer.MAX_VALUE;
        for (int key = now.slices.get(slice)[0] + 1; key < now.slices.get(slice)[1]; key++) {
            int differ = Math.abs(in(slice, 0, key) - in(slice, key, 1000));
            if (differ < least) {
                least = differ;
                best = key;
            }
        }
        return best;
    }

    int heaviest() {
        int best = NONE;
        for (int slice : now.slices.keySet()) {
            if (best == NONE || at(slice).size() > at(best).size()) best = slice;
        }
        return best;
    }
}
