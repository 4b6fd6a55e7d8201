/**
 * Slices of a table that are swapped in whole and pruned by their bounds.
 * What each call promises stands in ../shared/DOC.md.
 */
public final class PrunedSlices {
    /** There is no such slice, row or question (the text has a fault). */
    public static final int UNKNOWN = -1001;
    /** Another argument is out of range. */
    public static final int BAD_VALUE = -1002;
    /** There is no more room. */
    public static final int FULL = -1003;
    /** This is not possible. */
    public static final int NOT_POSSIBLE = -1004;
    /** There is no such thing; not an error. */
    public static final int NONE = -1005;

    private static final int KEYS = 1000;
    private static final int MOST_VALUE = 999;
    private static final int MOST_NUMBER = 999;

    private static final int MOST_ROWS_EVER = 400;
    private static final int MOST_SLICES = 12;
    private static final int MOST_SLICES_EVER = 60;
    private static final int SLICE_ROOM = 30;
    private static final int STAGE_ROOM = 20;
    private static final int MOST_STATES = 4;
    private static final int MOST_CHARACTERS = 60;
    private static final int MOST_OPEN = 5;
    private static final int MOST_NOTS = 5;

    // The places where a row can lie: 0 to 59 are slices.
    private static final int DEFAULT_SLICE = 60;
    private static final int STAGE = 61;
    private static final int PLACES = 62;
    private static final int GONE = -1;

    private static final int BY_BOUNDS = 1;
    private static final int BY_KEYS = 2;

    // Ordered so that "and" is the least, "or" the greatest, "not" TRUE less the truth.
    private static final int FALSE = 0;
    private static final int OPEN = 1;
    private static final int TRUE = 2;

    private final Table table = new Table();
    private final History history = new History();
    private final Question question = new Question();
    // 1 for each place that the question looks into; filled anew by markLooked().
    private final Cells looked = new Cells(PLACES);
    // How many rows each place has while mend() tries its turns.
    private final Cells amounts = new Cells(PLACES);

    /** A table without slices; the default slice is on, and it and the stage have no rows. */
    public PrunedSlices() {
    }

    // ---- rows

    /** Puts a row where its key belongs. */
    public int put(int key, int value) {
        if (!isKey(key) || !isValue(value)) {
            return BAD_VALUE;
        }
        int home = table.home(key);
        if (home == NONE) {
            return NOT_POSSIBLE;
        }
        if (table.rows.amountAt(home) >= SLICE_ROOM || table.rows.came >= MOST_ROWS_EVER) {
            return FULL;
        }
        history.record(table);
        return table.rows.append(key, value, home);
    }

    /** Puts a row onto the stage. */
    public int stage(int key, int value) {
        if (!isKey(key) || !isValue(value)) {
            return BAD_VALUE;
        }
        if (table.rows.amountAt(STAGE) >= STAGE_ROOM || table.rows.came >= MOST_ROWS_EVER) {
            return FULL;
        }
        history.record(table);
        return table.rows.append(key, value, STAGE);
    }

    /** Takes a row away. */
    public int take(int row) {
        if (!table.rows.has(row)) {
            return UNKNOWN;
        }
        history.record(table);
        table.rows.move(row, GONE);
        return table.rows.keyOf(row);
    }

    /** Gives a row another key. */
    public int rekey(int row, int key) {
        if (!table.rows.has(row)) {
            return UNKNOWN;
        }
        if (!isKey(key)) {
            return BAD_VALUE;
        }
        int previous = table.rows.keyOf(row);
        if (previous == key) {
            return NONE;
        }
        int from = table.rows.placeOf(row);
        int to = from == STAGE ? STAGE : table.home(key);
        if (to == NONE) {
            return NOT_POSSIBLE;
        }
        if (to != from && table.rows.amountAt(to) >= SLICE_ROOM) {
            return FULL;
        }
        history.record(table);
        table.rows.changeKey(row, key);
        table.rows.move(row, to);
        return previous;
    }

    // ---- slices

    /** Adds a slice; rows of the default slice move into it if the setting 1 says so. */
    public int addSlice(int low, int high) {
        if (!areBounds(low, high)) {
            return BAD_VALUE;
        }
        boolean takesRows = table.rows.amountWithKeys(DEFAULT_SLICE, low, high) > 0;
        if (table.slices.overlap(low, high) || takesRows && table.moving == 0) {
            return NOT_POSSIBLE;
        }
        if (table.slices.isFull()) {
            return FULL;
        }
        history.record(table);
        int number = table.slices.append(low, high);
        table.rows.moveKeys(DEFAULT_SLICE, number, low, high);
        return number;
    }

    /** Drops a slice with its rows. */
    public int dropSlice(int slice) {
        if (!table.slices.has(slice)) {
            return UNKNOWN;
        }
        int amount = table.rows.amountAt(slice);
        history.record(table);
        table.rows.moveAll(slice, GONE);
        table.slices.remove(slice);
        return amount;
    }

    /** Makes a slice's rows lie on the stage; the slice is no more. */
    public int detach(int slice) {
        if (!table.slices.has(slice)) {
            return UNKNOWN;
        }
        if (table.rows.amountAt(STAGE) > 0) {
            return NOT_POSSIBLE;
        }
        int amount = table.rows.amountAt(slice);
        if (amount > STAGE_ROOM) {
            return FULL;
        }
        history.record(table);
        table.rows.moveAll(slice, STAGE);
        table.slices.remove(slice);
        return amount;
    }

    /** Makes the rows of the stage a new slice. */
    public int attach(int low, int high) {
        if (!areBounds(low, high)) {
            return BAD_VALUE;
        }
        if (table.slices.overlap(low, high) || table.unfitRows(low, high) > 0
                || table.rows.amountWithKeys(DEFAULT_SLICE, low, high) > 0) {
            return NOT_POSSIBLE;
        }
        if (table.slices.isFull()) {
            return FULL;
        }
        history.record(table);
        int number = table.slices.append(low, high);
        table.rows.moveAll(STAGE, number);
        return number;
    }

    /** Swaps the rows of a slice and those of the stage. */
    public int swap(int slice, boolean checked) {
        int at = table.slices.positionOf(slice);
        if (at == NONE) {
            return UNKNOWN;
        }
        if (checked && table.unfitRows(table.slices.lowAt(at), table.slices.highAt(at)) > 0) {
            return NOT_POSSIBLE;
        }
        if (table.rows.amountAt(slice) > STAGE_ROOM) {
            return FULL;
        }
        history.record(table);
        table.rows.exchange(slice, STAGE);
        return table.rows.amountAt(slice);
    }

    /** Splits a slice in two at a key. */
    public int split(int slice, int key) {
        int at = table.slices.positionOf(slice);
        if (at == NONE) {
            return UNKNOWN;
        }
        int low = table.slices.lowAt(at);
        int high = table.slices.highAt(at);
        if (key <= low || key >= high) {
            return BAD_VALUE;
        }
        if (table.slices.isFull()) {
            return FULL;
        }
        history.record(table);
        table.slices.changeBounds(at, low, key);
        int number = table.slices.append(key, high);
        table.rows.moveKeys(slice, number, key, high);
        return number;
    }

    /** Merges a slice into another one beside it. */
    public int merge(int slice, int other) {
        int from = table.slices.positionOf(slice);
        int to = table.slices.positionOf(other);
        if (from == NONE || to == NONE) {
            return UNKNOWN;
        }
        if (!table.slices.areBeside(from, to)) {
            return NOT_POSSIBLE;
        }
        int amount = table.rows.amountAt(slice) + table.rows.amountAt(other);
        if (amount > SLICE_ROOM) {
            return FULL;
        }
        history.record(table);
        table.rows.moveAll(slice, other);
        table.slices.unite(from, to);
        return amount;
    }

    /** Switches the default slice on or off. */
    public int useDefault(boolean on) {
        if (table.defaultOn == on) {
            return NONE;
        }
        if (!on && table.rows.amountAt(DEFAULT_SLICE) > 0) {
            return NOT_POSSIBLE;
        }
        history.record(table);
        table.defaultOn = on;
        return table.slices.freeKeys();
    }

    /** Moves all strays to where they belong, or none of them. */
    public int mend() {
        int strays = table.strays();
        if (strays == 0) {
            return NONE;
        }
        if (table.strayIsHomeless()) {
            return NOT_POSSIBLE;
        }
        if (!straysFit()) {
            return FULL;
        }
        history.record(table);
        table.moveStrays();
        return strays;
    }

    /** Sets a setting. */
    public int set(int which, int value) {
        if (which < 0 || which > 1 || value < 0 || value > (which == 0 ? 2 : 1)) {
            return BAD_VALUE;
        }
        int previous = which == 0 ? table.pruning : table.moving;
        if (previous == value) {
            return NONE;
        }
        history.record(table);
        if (which == 0) {
            table.pruning = value;
        } else {
            table.moving = value;
        }
        return previous;
    }

    // ---- texts

    /** Appends a character to the text. */
    public int type(char character) {
        if (question.length >= MOST_CHARACTERS) {
            return FULL;
        }
        question.read(character);
        return question.length;
    }

    /** Empties the text. */
    public int clearText() {
        int length = question.length;
        question.forget();
        return length;
    }

    /** Tells the fault of the text. */
    public int fault() {
        return question.firstFault();
    }

    // ---- history

    /** Removes and restores the latest state of the history. */
    public int undo() {
        if (history.amount == 0) {
            return NONE;
        }
        history.giveBack(table);
        return history.amount;
    }

    /** Takes a snapshot of the state. */
    public int keep() {
        history.takeSnapshot(table);
        return table.slices.amount;
    }

    /** Restores the state of the snapshot. */
    public int restore() {
        if (!history.hasSnapshot) {
            return NONE;
        }
        history.record(table);
        table.copyFrom(history.snapshot);
        return table.slices.amount;
    }

    // ---- what is told

    /** Tells about a row. */
    public int row(int row, int what) {
        if (!table.rows.has(row)) {
            return UNKNOWN;
        }
        switch (what) {
            case 0: return table.rows.keyOf(row);
            case 1: return table.rows.valueOf(row);
            case 2: return table.rows.placeOf(row);
            case 3: return table.home(table.rows.keyOf(row));
            case 4: return table.isStray(row) ? 1 : 0;
            default: return BAD_VALUE;
        }
    }

    /** Tells about a slice, the default slice or the stage. */
    public int slice(int slice, int what) {
        if (!isPlace(slice)) {
            return UNKNOWN;
        }
        int at = table.slices.positionOf(slice);
        switch (what) {
            case 0: return at == NONE ? NONE : table.slices.lowAt(at);
            case 1: return at == NONE ? NONE : table.slices.highAt(at);
            case 2: return table.rows.amountAt(slice);
            case 3: return keyOfRanked(slice, 0);
            case 4: return keyOfRanked(slice, table.rows.amountAt(slice) - 1);
            case 5: return table.rows.sumAt(slice);
            case 6: return table.straysAt(slice);
            default: return BAD_VALUE;
        }
    }

    /** Tells a slice by the order of bounds. */
    public int ordered(int rank) {
        if (rank < 0) {
            return BAD_VALUE;
        }
        return rank < table.slices.amount ? table.slices.numberAt(rank) : NONE;
    }

    /** Tells a row of a slice, by ascending keys. */
    public int lies(int slice, int rank) {
        if (!isPlace(slice)) {
            return UNKNOWN;
        }
        if (rank < 0) {
            return BAD_VALUE;
        }
        return table.rows.ranked(slice, rank);
    }

    /** Tells where a key belongs. */
    public int belongs(int key) {
        return isKey(key) ? table.home(key) : BAD_VALUE;
    }

    /** Tells a gap between the slices. */
    public int gap(int rank, int what) {
        if (rank < 0 || what < 0 || what > 1) {
            return BAD_VALUE;
        }
        int at = table.slices.gapRanked(rank);
        if (at == NONE) {
            return NONE;
        }
        return what == 0 ? table.slices.gapLow(at) : table.slices.gapHigh(at) - 1;
    }

    /** Tells a stray, by ascending numbers. */
    public int stray(int rank) {
        if (rank < 0) {
            return BAD_VALUE;
        }
        int ahead = 0;
        for (int row = 0; row < table.rows.came; row++) {
            if (table.isStray(row)) {
                if (ahead == rank) {
                    return row;
                }
                ahead++;
            }
        }
        return NONE;
    }

    /** Tells a count or a setting. */
    public int count(int what) {
        switch (what) {
            case 0: return table.slices.amount;
            case 1: return table.slices.came;
            case 2: return table.rows.amountInTable();
            case 3: return table.rows.amountAt(STAGE);
            case 4: return table.rows.came;
            case 5: return table.strays();
            case 6: return table.defaultOn ? 1 : 0;
            case 7: return table.slices.gaps();
            case 8: return table.slices.freeKeys();
            case 9: return table.pruning;
            case 10: return table.moving;
            case 11: return history.amount;
            case 12: return question.length;
            default: return BAD_VALUE;
        }
    }

    // ---- questions

    /** Asks the question of the text. */
    public int ask(int what) {
        if (question.isFaulty()) {
            return UNKNOWN;
        }
        markLooked(table.pruning);
        switch (what) {
            case 0: return answerAmount();
            case 1: return answerSum();
            case 2: return lookedPlaces();
            case 3: return lookedRows();
            case 4: return wholeAmount();
            case 5: return wholeAmount() - answerAmount();
            default: return BAD_VALUE;
        }
    }

    /** Tells a row of the answer, by ascending numbers. */
    public int answer(int rank) {
        if (question.isFaulty()) {
            return UNKNOWN;
        }
        if (rank < 0) {
            return BAD_VALUE;
        }
        markLooked(table.pruning);
        int ahead = 0;
        for (int row = 0; row < table.rows.came; row++) {
            if (isAnswer(row)) {
                if (ahead == rank) {
                    return row;
                }
                ahead++;
            }
        }
        return NONE;
    }

    /** Tells whether a slice is looked into by the question. */
    public int looksInto(int slice, int pruning) {
        if (slice != DEFAULT_SLICE && !table.slices.has(slice) || question.isFaulty()) {
            return UNKNOWN;
        }
        if (pruning < 0 || pruning > BY_KEYS) {
            return BAD_VALUE;
        }
        markLooked(pruning);
        return looked.at(slice);
    }

    /** Tells whether a row passes the question. */
    public int passes(int row) {
        if (!table.rows.has(row) || question.isFaulty()) {
            return UNKNOWN;
        }
        return rowPasses(row) ? 1 : 0;
    }

    /** Tells how much of the table is not looked into. */
    public double spared() {
        if (question.isFaulty()) {
            return -1.0;
        }
        int all = table.rows.amountInTable();
        if (all <= 0) {
            return 0.0;
        }
        markLooked(table.pruning);
        return 1.0 - (double) lookedRows() / (double) all;
    }

    // ---- what would be

    /** Tells how many rows of the stage a slice does not have the keys of. */
    public int unfit(int slice) {
        int at = table.slices.positionOf(slice);
        if (at == NONE) {
            return UNKNOWN;
        }
        return table.unfitRows(table.slices.lowAt(at), table.slices.highAt(at));
    }

    /** Finds the key at which a slice is split the most evenly. */
    public int bestSplit(int slice) {
        int at = table.slices.positionOf(slice);
        if (at == NONE) {
            return UNKNOWN;
        }
        int low = table.slices.lowAt(at);
        int high = table.slices.highAt(at);
        if (high - low < 2) {
            return NONE;
        }
        // The numbers of rows change only just behind a row's key: other keys are never better.
        int amount = table.rows.amountAt(slice);
        int best = low + 1;
        int least = unevenness(slice, best, amount);
        for (int row = 0; row < table.rows.came; row++) {
            int key = table.rows.keyOf(row) + 1;
            if (table.rows.placeOf(row) == slice && key > low && key < high) {
                int uneven = unevenness(slice, key, amount);
                if (uneven < least || uneven == least && key < best) {
                    best = key;
                    least = uneven;
                }
            }
        }
        return best;
    }

    /** Finds the slice with the most rows. */
    public int heaviest() {
        int best = NONE;
        int most = -1;
        for (int at = 0; at < table.slices.amount; at++) {
            int number = table.slices.numberAt(at);
            int amount = table.rows.amountAt(number);
            if (amount > most || amount == most && number < best) {
                best = number;
                most = amount;
            }
        }
        return best;
    }

    // ---- arguments

    private static boolean isKey(int key) {
        return key >= 0 && key < KEYS;
    }

    private static boolean isValue(int value) {
        return value >= -MOST_VALUE && value <= MOST_VALUE;
    }

    private static boolean areBounds(int low, int high) {
        return isKey(low) && high > low && high <= KEYS;
    }

    private boolean isPlace(int place) {
        return place == DEFAULT_SLICE || place == STAGE || table.slices.has(place);
    }

    // ---- parts of the calls above

    private int keyOfRanked(int place, int rank) {
        int row = table.rows.ranked(place, rank);
        return row == NONE ? NONE : table.rows.keyOf(row);
    }

    /** Whether every stray finds room when its turn comes; earlier turns free and fill places. */
    private boolean straysFit() {
        amounts.clear();
        for (int row = 0; row < table.rows.came; row++) {
            // A row that is gone has no place here: Cells takes no number outside.
            int place = table.rows.placeOf(row);
            amounts.write(place, amounts.at(place) + 1);
        }
        for (int row = 0; row < table.rows.came; row++) {
            if (table.isStray(row)) {
                int from = table.rows.placeOf(row);
                int to = table.home(table.rows.keyOf(row));
                if (amounts.at(to) >= SLICE_ROOM) {
                    return false;
                }
                amounts.write(from, amounts.at(from) - 1);
                amounts.write(to, amounts.at(to) + 1);
            }
        }
        return true;
    }

    /** By how much the rows with lower keys and the others of a slice's amount differ. */
    private int unevenness(int slice, int key, int amount) {
        int lower = table.rows.amountWithKeys(slice, 0, key);
        return Math.abs(amount - 2 * lower);
    }

    // ---- parts of the questions

    private void markLooked(int pruning) {
        looked.clear();
        for (int at = 0; at < table.slices.amount; at++) {
            if (sliceMayHold(at, pruning)) {
                looked.write(table.slices.numberAt(at), 1);
            }
        }
        if (table.defaultOn && (pruning != BY_KEYS || someFreeKeyMayHold())) {
            looked.write(DEFAULT_SLICE, 1);
        }
    }

    private boolean sliceMayHold(int at, int pruning) {
        int first = table.slices.lowAt(at);
        int last = table.slices.highAt(at) - 1;
        switch (pruning) {
            case BY_BOUNDS: return question.truth(first, last, false, 0) != FALSE;
            case BY_KEYS: return question.someKeyMayHold(first, last);
            default: return true;
        }
    }

    private boolean someFreeKeyMayHold() {
        for (int at = 0; at <= table.slices.amount; at++) {
            int first = table.slices.gapLow(at);
            int last = table.slices.gapHigh(at) - 1;
            if (first <= last && question.someKeyMayHold(first, last)) {
                return true;
            }
        }
        return false;
    }

    private boolean isLooked(int row) {
        return looked.at(table.rows.placeOf(row)) == 1;
    }

    private boolean rowPasses(int row) {
        int key = table.rows.keyOf(row);
        return question.truth(key, key, true, table.rows.valueOf(row)) == TRUE;
    }

    private boolean isAnswer(int row) {
        return isLooked(row) && rowPasses(row);
    }

    private int answerAmount() {
        int amount = 0;
        for (int row = 0; row < table.rows.came; row++) {
            if (isAnswer(row)) {
                amount++;
            }
        }
        return amount;
    }

    private int answerSum() {
        int sum = 0;
        for (int row = 0; row < table.rows.came; row++) {
            if (isAnswer(row)) {
                sum += table.rows.valueOf(row);
            }
        }
        return sum;
    }

    private int wholeAmount() {
        int amount = 0;
        for (int row = 0; row < table.rows.came; row++) {
            if (table.rows.isInTable(row) && rowPasses(row)) {
                amount++;
            }
        }
        return amount;
    }

    private int lookedPlaces() {
        int amount = 0;
        for (int place = 0; place < PLACES; place++) {
            amount += looked.at(place);
        }
        return amount;
    }

    private int lookedRows() {
        int amount = 0;
        for (int row = 0; row < table.rows.came; row++) {
            if (isLooked(row)) {
                amount++;
            }
        }
        return amount;
    }

    /** Numbers in a row, whose indexes are looked at here so that no caller can leave them. */
    private static final class Cells {
        private final int[] cells;

        Cells(int size) {
            cells = new int[size < 0 ? 0 : size];
        }

        /** The number at an index; 0 outside. */
        int at(int index) {
            return index >= 0 && index < cells.length ? cells[index] : 0;
        }

        /** Writes the number at an index; outside nothing. */
        void write(int index, int number) {
            if (index >= 0 && index < cells.length) {
                cells[index] = number;
            }
        }

        void clear() {
            for (int i = 0; i < cells.length; i++) {
                cells[i] = 0;
            }
        }

        void copyFrom(Cells other) {
            System.arraycopy(other.cells, 0, cells, 0, Math.min(cells.length, other.cells.length));
        }
    }

    /** All rows that came: their keys, values and places. */
    private static final class Rows {
        private final Cells keys = new Cells(MOST_ROWS_EVER);
        private final Cells values = new Cells(MOST_ROWS_EVER);
        private final Cells places = new Cells(MOST_ROWS_EVER);
        int came;

        void copyFrom(Rows other) {
            keys.copyFrom(other.keys);
            values.copyFrom(other.values);
            places.copyFrom(other.places);
            came = other.came;
        }

        boolean has(int row) {
            return placeOf(row) != GONE;
        }

        int keyOf(int row) {
            return keys.at(row);
        }

        int valueOf(int row) {
            return values.at(row);
        }

        int placeOf(int row) {
            return row >= 0 && row < came ? places.at(row) : GONE;
        }

        /** Whether a row lies in a slice or in the default slice. */
        boolean isInTable(int row) {
            int place = placeOf(row);
            return place != GONE && place != STAGE;
        }

        int append(int key, int value, int place) {
            int row = came;
            keys.write(row, key);
            values.write(row, value);
            places.write(row, place);
            came++;
            return row;
        }

        void changeKey(int row, int key) {
            keys.write(row, key);
        }

        void move(int row, int place) {
            places.write(row, place);
        }

        void moveAll(int from, int to) {
            moveKeys(from, to, 0, KEYS);
        }

        void moveKeys(int from, int to, int low, int high) {
            for (int row = 0; row < came; row++) {
                if (liesWithKey(row, from, low, high)) {
                    move(row, to);
                }
            }
        }

        void exchange(int place, int other) {
            for (int row = 0; row < came; row++) {
                if (placeOf(row) == place) {
                    move(row, other);
                } else if (placeOf(row) == other) {
                    move(row, place);
                }
            }
        }

        int amountInTable() {
            int amount = 0;
            for (int row = 0; row < came; row++) {
                if (isInTable(row)) {
                    amount++;
                }
            }
            return amount;
        }

        int amountAt(int place) {
            return amountWithKeys(place, 0, KEYS);
        }

        int amountWithKeys(int place, int low, int high) {
            int amount = 0;
            for (int row = 0; row < came; row++) {
                if (liesWithKey(row, place, low, high)) {
                    amount++;
                }
            }
            return amount;
        }

        private boolean liesWithKey(int row, int place, int low, int high) {
            return placeOf(row) == place && keyOf(row) >= low && keyOf(row) < high;
        }

        int sumAt(int place) {
            int sum = 0;
            for (int row = 0; row < came; row++) {
                if (placeOf(row) == place) {
                    sum += valueOf(row);
                }
            }
            return sum;
        }

        /** The row of a place by ascending keys, of the same key by ascending numbers. */
        int ranked(int place, int rank) {
            for (int row = 0; row < came; row++) {
                if (placeOf(row) == place && amountAhead(row, place) == rank) {
                    return row;
                }
            }
            return NONE;
        }

        private int amountAhead(int row, int place) {
            int key = keyOf(row);
            int amount = 0;
            for (int other = 0; other < came; other++) {
                boolean ahead = keyOf(other) < key || keyOf(other) == key && other < row;
                if (ahead && placeOf(other) == place) {
                    amount++;
                }
            }
            return amount;
        }
    }

    /** The slices that there are, always by the order of their bounds. */
    private static final class Slices {
        private final Cells numbers = new Cells(MOST_SLICES);
        private final Cells lows = new Cells(MOST_SLICES);
        private final Cells highs = new Cells(MOST_SLICES);
        int amount;
        int came;

        void copyFrom(Slices other) {
            numbers.copyFrom(other.numbers);
            lows.copyFrom(other.lows);
            highs.copyFrom(other.highs);
            amount = other.amount;
            came = other.came;
        }

        boolean isFull() {
            return amount >= MOST_SLICES || came >= MOST_SLICES_EVER;
        }

        boolean has(int number) {
            return positionOf(number) != NONE;
        }

        int positionOf(int number) {
            for (int at = 0; at < amount; at++) {
                if (numberAt(at) == number) {
                    return at;
                }
            }
            return NONE;
        }

        int numberAt(int at) {
            return numbers.at(at);
        }

        int lowAt(int at) {
            return lows.at(at);
        }

        int highAt(int at) {
            return highs.at(at);
        }

        /** The number of the slice that has a key; NONE if no slice has it. */
        int having(int key) {
            for (int at = 0; at < amount; at++) {
                if (key >= lowAt(at) && key < highAt(at)) {
                    return numberAt(at);
                }
            }
            return NONE;
        }

        boolean overlap(int low, int high) {
            for (int at = 0; at < amount; at++) {
                if (low < highAt(at) && lowAt(at) < high) {
                    return true;
                }
            }
            return false;
        }

        boolean areBeside(int at, int other) {
            return highAt(at) == lowAt(other) || highAt(other) == lowAt(at);
        }

        int append(int low, int high) {
            int at = amount;
            while (at > 0 && lowAt(at - 1) > low) {
                copyEntry(at - 1, at);
                at--;
            }
            numbers.write(at, came);
            changeBounds(at, low, high);
            amount++;
            came++;
            return came - 1;
        }

        void remove(int number) {
            int from = positionOf(number);
            if (from == NONE) {
                return;
            }
            for (int at = from + 1; at < amount; at++) {
                copyEntry(at, at - 1);
            }
            amount--;
        }

        private void copyEntry(int from, int to) {
            numbers.write(to, numberAt(from));
            changeBounds(to, lowAt(from), highAt(from));
        }

        void changeBounds(int at, int low, int high) {
            lows.write(at, low);
            highs.write(at, high);
        }

        /** Gives the keys of one slice to another one beside it, and removes the first. */
        void unite(int from, int to) {
            int low = Math.min(lowAt(from), lowAt(to));
            int high = Math.max(highAt(from), highAt(to));
            changeBounds(to, low, high);
            remove(numberAt(from));
        }

        // Between the slices, ahead of the first and behind the last there are amount + 1
        // places for gaps; the keys at a place are from gapLow to gapHigh less 1, perhaps none.

        int gapLow(int at) {
            return at == 0 ? 0 : highAt(at - 1);
        }

        int gapHigh(int at) {
            return at == amount ? KEYS : lowAt(at);
        }

        int gapRanked(int rank) {
            int ahead = 0;
            for (int at = 0; at <= amount; at++) {
                if (gapLow(at) < gapHigh(at)) {
                    if (ahead == rank) {
                        return at;
                    }
                    ahead++;
                }
            }
            return NONE;
        }

        int gaps() {
            int gaps = 0;
            for (int at = 0; at <= amount; at++) {
                if (gapLow(at) < gapHigh(at)) {
                    gaps++;
                }
            }
            return gaps;
        }

        int freeKeys() {
            int keys = 0;
            for (int at = 0; at <= amount; at++) {
                keys += gapHigh(at) - gapLow(at);
            }
            return keys;
        }
    }

    /** A state: everything but the text, the history and the snapshot. */
    private static final class Table {
        final Rows rows = new Rows();
        final Slices slices = new Slices();
        boolean defaultOn = true;
        int pruning;
        int moving;

        void copyFrom(Table other) {
            rows.copyFrom(other.rows);
            slices.copyFrom(other.slices);
            defaultOn = other.defaultOn;
            pruning = other.pruning;
            moving = other.moving;
        }

        /** Where a key belongs; NONE for nowhere. */
        int home(int key) {
            int number = slices.having(key);
            if (number == NONE && defaultOn) {
                return DEFAULT_SLICE;
            }
            return number;
        }

        boolean isStray(int row) {
            return rows.isInTable(row) && home(rows.keyOf(row)) != rows.placeOf(row);
        }

        int strays() {
            int amount = 0;
            for (int row = 0; row < rows.came; row++) {
                if (isStray(row)) {
                    amount++;
                }
            }
            return amount;
        }

        int straysAt(int place) {
            int amount = 0;
            for (int row = 0; row < rows.came; row++) {
                if (rows.placeOf(row) == place && isStray(row)) {
                    amount++;
                }
            }
            return amount;
        }

        boolean strayIsHomeless() {
            for (int row = 0; row < rows.came; row++) {
                if (isStray(row) && home(rows.keyOf(row)) == NONE) {
                    return true;
                }
            }
            return false;
        }

        void moveStrays() {
            for (int row = 0; row < rows.came; row++) {
                if (isStray(row)) {
                    rows.move(row, home(rows.keyOf(row)));
                }
            }
        }

        /** How many rows of the stage have a key outside the bounds. */
        int unfitRows(int low, int high) {
            return rows.amountAt(STAGE) - rows.amountWithKeys(STAGE, low, high);
        }
    }

    /** The latest states, the oldest first, and the snapshot; their tables are used again. */
    private static final class History {
        private final Table[] states = new Table[MOST_STATES];
        final Table snapshot = new Table();
        boolean hasSnapshot;
        int amount;

        History() {
            for (int i = 0; i < states.length; i++) {
                states[i] = new Table();
            }
        }

        void record(Table table) {
            if (amount >= states.length) {
                putOldestLast();
                amount = states.length - 1;
            }
            Table state = stateAt(amount);
            if (state != null) {
                state.copyFrom(table);
                amount++;
            }
        }

        private void putOldestLast() {
            for (int i = 1; i < states.length; i++) {
                Table older = states[i - 1];
                states[i - 1] = states[i];
                states[i] = older;
            }
        }

        /** Removes the latest state and copies it into the table. */
        void giveBack(Table table) {
            Table state = stateAt(amount - 1);
            if (state != null) {
                table.copyFrom(state);
                amount--;
            }
        }

        void takeSnapshot(Table table) {
            snapshot.copyFrom(table);
            hasSnapshot = true;
        }

        private Table stateAt(int index) {
            return index >= 0 && index < states.length ? states[index] : null;
        }
    }

    /** The question of the text, read a character at a time and kept as tokens. */
    private static final class Question {
        // What the text can go on with.
        private static final int TEST = 0;
        private static final int SIGN = 1;
        private static final int NUMBER = 2;
        private static final int DIGIT = 3;
        private static final int MORE_DIGITS = 4;
        private static final int BEHIND_TEST = 5;

        int length;
        private int faultAt = NONE;
        private int step = TEST;
        private int open;
        private int nots;
        private boolean minus;
        private int digits;

        // A token is a character of "kv!()&|"; tests have a sign and a number besides.
        private int tokens;
        private final Cells kinds = new Cells(MOST_CHARACTERS);
        private final Cells signs = new Cells(MOST_CHARACTERS);
        private final Cells numbers = new Cells(MOST_CHARACTERS);

        // For each depth of "(": the truth of the parts that ended, that of the tests of the
        // part that goes on, and whether the next test is turned over.
        private final Cells ended = new Cells(MOST_OPEN + 1);
        private final Cells going = new Cells(MOST_OPEN + 1);
        private final Cells turned = new Cells(MOST_OPEN + 1);

        void forget() {
            length = 0;
            faultAt = NONE;
            step = TEST;
            open = 0;
            nots = 0;
            tokens = 0;
        }

        void read(char character) {
            if (faultAt == NONE && !isAllowed(character)) {
                faultAt = length;
            }
            length++;
        }

        boolean isFaulty() {
            return firstFault() != NONE;
        }

        int firstFault() {
            if (faultAt != NONE) {
                return faultAt;
            }
            boolean complete = step == MORE_DIGITS || step == BEHIND_TEST;
            return complete && open == 0 ? NONE : length;
        }

        /** Reads a character if the text can go on with it. */
        private boolean isAllowed(char character) {
            switch (step) {
                case TEST: return startsTest(character);
                case SIGN: return isSign(character);
                case NUMBER: return isMinus(character) || isFirstDigit(character);
                case DIGIT: return isFirstDigit(character);
                case MORE_DIGITS: return isNextDigit(character) || followsTest(character);
                default: return followsTest(character);
            }
        }

        private boolean startsTest(char character) {
            switch (character) {
                case 'k':
                case 'v':
                    nots = 0;
                    addToken(character, SIGN);
                    return true;
                case '!':
                    if (nots >= MOST_NOTS) {
                        return false;
                    }
                    nots++;
                    addToken(character, TEST);
                    return true;
                case '(':
                    if (open >= MOST_OPEN) {
                        return false;
                    }
                    open++;
                    nots = 0;
                    addToken(character, TEST);
                    return true;
                default:
                    return false;
            }
        }

        private boolean isSign(char character) {
            if (character != '<' && character != '>' && character != '=' && character != '#') {
                return false;
            }
            signs.write(tokens - 1, character);
            minus = false;
            step = NUMBER;
            return true;
        }

        private boolean isMinus(char character) {
            if (character != '-') {
                return false;
            }
            minus = true;
            step = DIGIT;
            return true;
        }

        private boolean isFirstDigit(char character) {
            if (character < '0' || character > '9') {
                return false;
            }
            setDigits(character - '0');
            step = MORE_DIGITS;
            return true;
        }

        private boolean isNextDigit(char character) {
            if (character < '0' || character > '9' || digits == 0) {
                return false;
            }
            int longer = digits * 10 + (character - '0');
            if (longer > MOST_NUMBER) {
                return false;
            }
            setDigits(longer);
            return true;
        }

        private void setDigits(int number) {
            digits = number;
            numbers.write(tokens - 1, minus ? -number : number);
        }

        private boolean followsTest(char character) {
            switch (character) {
                case '&':
                case '|':
                    addToken(character, TEST);
                    return true;
                case ')':
                    if (open == 0) {
                        return false;
                    }
                    open--;
                    addToken(character, BEHIND_TEST);
                    return true;
                default:
                    return false;
            }
        }

        private void addToken(char kind, int next) {
            kinds.write(tokens, kind);
            tokens++;
            step = next;
        }

        /**
         * Whether some key from first to last passes with values left open. The truth for a key
         * changes only at the numbers of tests and just behind them: other keys need no look.
         */
        boolean someKeyMayHold(int first, int last) {
            if (keyMayHold(first, first, last)) {
                return true;
            }
            for (int token = 0; token < tokens; token++) {
                int number = numbers.at(token);
                if (kinds.at(token) == 'k'
                        && (keyMayHold(number, first, last) || keyMayHold(number + 1, first, last))) {
                    return true;
                }
            }
            return false;
        }

        private boolean keyMayHold(int key, int first, int last) {
            return key >= first && key <= last && truth(key, key, false, 0) != FALSE;
        }

        /**
         * The truth for all keys from first to last: OPEN if it is not the same or not known.
         * That a question can hold is that it is not FALSE, that it has to is that it is TRUE.
         */
        int truth(int first, int last, boolean valueKnown, int value) {
            int depth = 0;
            startDepth(depth);
            for (int token = 0; token < tokens; token++) {
                switch (kinds.at(token)) {
                    case 'k': addTruth(depth, testTruth(token, first, last)); break;
                    case 'v': addTruth(depth, valueKnown ? testTruth(token, value, value) : OPEN); break;
                    case '!': turned.write(depth, 1 - turned.at(depth)); break;
                    case '|': endPart(depth); break;
                    case '(':
                        depth++;
                        startDepth(depth);
                        break;
                    case ')':
                        endPart(depth);
                        depth--;
                        addTruth(depth, ended.at(depth + 1));
                        break;
                    default: break;
                }
            }
            endPart(depth);
            return ended.at(depth);
        }

        private void startDepth(int depth) {
            ended.write(depth, FALSE);
            going.write(depth, TRUE);
            turned.write(depth, 0);
        }

        private void addTruth(int depth, int truth) {
            int told = turned.at(depth) == 1 ? TRUE - truth : truth;
            going.write(depth, Math.min(going.at(depth), told));
            turned.write(depth, 0);
        }

        private void endPart(int depth) {
            ended.write(depth, Math.max(ended.at(depth), going.at(depth)));
            going.write(depth, TRUE);
        }

        private int testTruth(int token, int first, int last) {
            int number = numbers.at(token);
            boolean isOutside = number < first || number > last;
            boolean isAlone = number == first && number == last;
            switch (signs.at(token)) {
                case '<': return truthOf(first < number, last < number);
                case '>': return truthOf(last > number, first > number);
                case '=': return truthOf(!isOutside, isAlone);
                default: return truthOf(!isAlone, isOutside);
            }
        }

        private static int truthOf(boolean forSome, boolean forAll) {
            return forAll ? TRUE : forSome ? OPEN : FALSE;
        }
    }
}
