/** Compares answers with those that are due, prints the wrong ones and ends with 1 if there are any. */
final class Check {
    private static final int MOST_PRINTED = 40;

    private final String name;
    private final int mostPrinted;
    private int all;
    private int wrong;

    Check(String name) {
        this(name, MOST_PRINTED);
    }

    private Check(String name, int mostPrinted) {
        this.name = name;
        this.mostPrinted = mostPrinted;
    }

    /** One that prints nothing. */
    static Check quiet() {
        return new Check("quiet", 0);
    }

    void due(String call, long want, long got) {
        due(call, Long.toString(want), Long.toString(got));
    }

    void due(String call, double want, double got) {
        due(call, Double.toString(want), Double.toString(got));
    }

    void due(String call, String want, String got) {
        all++;
        if (!want.equals(got)) {
            wrong++;
            if (wrong <= mostPrinted) {
                System.out.println(name + ": " + call + " answered " + got + ", due is " + want);
            }
        }
    }

    boolean isWrong() {
        return wrong > 0;
    }

    void end() {
        System.out.println(name + ": " + all + " answers, " + wrong + " not as due");
        if (wrong > 0 || all == 0) {
            System.exit(1);
        }
    }
}
