import java.util.ArrayList;
import java.util.List;

/**
 * All that an object tells after some calls. It is asked on fresh objects with the same calls, so
 * that none is called more often than the document promises answers for.
 */
final class Looks {
    private static final String NONE = "-1005";
    private static final int MOST_RANKS = 400;

    private final Class<?> tested;
    private final List<String[]> calls;
    private final List<String> told;
    private Caller caller;

    private Looks(Class<?> tested, List<String[]> calls, List<String> told) {
        this.tested = tested;
        this.calls = calls;
        this.told = told;
        caller = Caller.after(tested, calls);
    }

    /** What is told after the calls, each as "call = answer". */
    static List<String> of(Class<?> tested, List<String[]> calls) {
        List<String> told = new ArrayList<>();
        new Looks(tested, calls, told).lookAtAll();
        return told;
    }

    /** The same, and what would be told after each undo() that is possible, and after restore(). */
    static List<String> withPast(Class<?> tested, List<String[]> calls) {
        List<String> told = of(tested, calls);
        List<String[]> more = new ArrayList<>(calls);
        for (int state = 0; state < 5; state++) {
            more.add(new String[] {"undo"});
            told.add("undo");
            told.addAll(of(tested, more));
        }
        more = new ArrayList<>(calls);
        more.add(new String[] {"restore"});
        told.add("restore = " + Caller.after(tested, calls).call("restore"));
        told.addAll(of(tested, more));
        return told;
    }

    private String look(String... words) {
        if (caller.isSpent()) {
            caller = Caller.after(tested, calls);
        }
        String answer = caller.call(words);
        told.add(String.join(" ", words) + " = " + answer);
        return answer;
    }

    private void lookAtAll() {
        lookAtSome("count", 13);
        lookAtSome("ask", 6);
        look("fault");
        look("spared");
        look("heaviest");
        int rows = Integer.parseInt(look("count", "4"));
        for (int row = 0; row <= rows; row++) {
            lookAtSome("row " + row, 5);
            look("passes", Integer.toString(row));
        }
        lookAtRanks("ordered");
        lookAtRanks("stray");
        lookAtRanks("answer");
        lookAtGaps();
        lookAtPlaces();
        for (int key = 0; key < 1000; key += 37) {
            look("belongs", Integer.toString(key));
        }
    }

    private void lookAtSome(String call, int many) {
        for (int what = 0; what < many; what++) {
            look((call + " " + what).split(" "));
        }
    }

    /** Looks at the ranks from 0 to the first that is an error or NONE. */
    private void lookAtRanks(String call) {
        int rank = 0;
        while (rank < MOST_RANKS && Integer.parseInt(look((call + " " + rank).split(" "))) >= 0) {
            rank++;
        }
    }

    private void lookAtGaps() {
        int rank = 0;
        while (rank < MOST_RANKS && !look("gap", Integer.toString(rank), "0").equals(NONE)) {
            look("gap", Integer.toString(rank), "1");
            rank++;
        }
    }

    private void lookAtPlaces() {
        List<String> places = new ArrayList<>(List.of("60", "61"));
        int slices = Integer.parseInt(look("count", "0"));
        for (int rank = 0; rank < slices; rank++) {
            places.add(look("ordered", Integer.toString(rank)));
        }
        for (String place : places) {
            lookAtSome("slice " + place, 7);
            lookAtSome("looksInto " + place, 3);
            lookAtRanks("lies " + place);
            look("unfit", place);
            look("bestSplit", place);
        }
    }
}
