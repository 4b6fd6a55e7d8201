import java.util.ArrayList;
import java.util.List;

/** A question as a tree, with the document's three ways to look at it. */
final class ModelQuestion {
    /** The text has a fault at an index. */
    static final class Fault extends RuntimeException {
        private static final long serialVersionUID = 1L;
        final int index;

        Fault(int index) {
            this.index = index;
        }
    }

    private interface Node {
        boolean passes(int key, int value);

        boolean canHold(int from, int to);

        boolean hasToHold(int from, int to);

        /** 't' for true, 'f' for false, 'o' for open. */
        char withKey(int key);
    }

    private final String text;
    private final Node whole;
    private int at;
    private int open;

    ModelQuestion(String text) {
        this.text = text;
        whole = question();
        if (at < text.length()) {
            throw new Fault(at);
        }
    }

    boolean passes(int key, int value) {
        return whole.passes(key, value);
    }

    boolean canHold(int from, int to) {
        return whole.canHold(from, to);
    }

    boolean isNotFalse(int key) {
        return whole.withKey(key) != 'f';
    }

    private char next() {
        return at < text.length() ? text.charAt(at) : '\0';
    }

    private boolean takes(char character) {
        if (next() != character || at >= text.length()) {
            return false;
        }
        at++;
        return true;
    }

    private Node question() {
        List<Node> parts = new ArrayList<>();
        do {
            parts.add(part());
        } while (takes('|'));
        return new Or(parts);
    }

    private Node part() {
        List<Node> tests = new ArrayList<>();
        do {
            tests.add(test(0));
        } while (takes('&'));
        return new And(tests);
    }

    private Node test(int nots) {
        if (nots < 5 && takes('!')) {
            return new Not(test(nots + 1));
        }
        if (open < 5 && takes('(')) {
            open++;
            Node inside = question();
            if (!takes(')')) {
                throw new Fault(at);
            }
            open--;
            return inside;
        }
        boolean ofKey = next() == 'k';
        if (!takes('k') && !takes('v')) {
            throw new Fault(at);
        }
        char sign = next();
        if (at >= text.length() || "<>=#".indexOf(sign) < 0) {
            throw new Fault(at);
        }
        at++;
        return new Test(ofKey, sign, number());
    }

    private int number() {
        boolean minus = takes('-');
        int from = at;
        while (at < text.length() && "0123456789".indexOf(next()) >= 0) {
            String longer = text.substring(from, at + 1);
            if (longer.length() > 1 && longer.charAt(0) == '0' || longer.length() > 3) {
                throw new Fault(at);
            }
            at++;
        }
        if (at == from) {
            throw new Fault(at);
        }
        int number = Integer.parseInt(text.substring(from, at));
        return minus ? -number : number;
    }

    private static boolean isSo(char sign, int one, int other) {
        switch (sign) {
            case '<': return one < other;
            case '>': return one > other;
            case '=': return one == other;
            default: return one != other;
        }
    }

    private static final class Test implements Node {
        private final boolean ofKey;
        private final char sign;
        private final int number;

        Test(boolean ofKey, char sign, int number) {
            this.ofKey = ofKey;
            this.sign = sign;
            this.number = number;
        }

        public boolean passes(int key, int value) {
            return isSo(sign, ofKey ? key : value, number);
        }

        private int passing(int from, int to) {
            int passing = 0;
            for (int key = from; key <= to; key++) {
                passing += isSo(sign, key, number) ? 1 : 0;
            }
            return passing;
        }

        public boolean canHold(int from, int to) {
            return !ofKey || passing(from, to) > 0;
        }

        public boolean hasToHold(int from, int to) {
            return ofKey && passing(from, to) == to - from + 1;
        }

        public char withKey(int key) {
            return !ofKey ? 'o' : isSo(sign, key, number) ? 't' : 'f';
        }
    }

    private static final class Not implements Node {
        private final Node behind;

        Not(Node behind) {
            this.behind = behind;
        }

        public boolean passes(int key, int value) {
            return !behind.passes(key, value);
        }

        public boolean canHold(int from, int to) {
            return !behind.hasToHold(from, to);
        }

        public boolean hasToHold(int from, int to) {
            return !behind.canHold(from, to);
        }

        public char withKey(int key) {
            char truth = behind.withKey(key);
            return truth == 't' ? 'f' : truth == 'f' ? 't' : 'o';
        }
    }

    private static final class And implements Node {
        private final List<Node> tests;

        And(List<Node> tests) {
            this.tests = tests;
        }

        public boolean passes(int key, int value) {
            return tests.stream().allMatch(test -> test.passes(key, value));
        }

        public boolean canHold(int from, int to) {
            return tests.stream().allMatch(test -> test.canHold(from, to));
        }

        public boolean hasToHold(int from, int to) {
            return tests.stream().allMatch(test -> test.hasToHold(from, to));
        }

        public char withKey(int key) {
            if (tests.stream().anyMatch(test -> test.withKey(key) == 'f')) {
                return 'f';
            }
            return tests.stream().anyMatch(test -> test.withKey(key) == 'o') ? 'o' : 't';
        }
    }

    private static final class Or implements Node {
        private final List<Node> parts;

        Or(List<Node> parts) {
            this.parts = parts;
        }

        public boolean passes(int key, int value) {
            return parts.stream().anyMatch(part -> part.passes(key, value));
        }

        public boolean canHold(int from, int to) {
            return parts.stream().anyMatch(part -> part.canHold(from, to));
        }

        public boolean hasToHold(int from, int to) {
            return parts.stream().anyMatch(part -> part.hasToHold(from, to));
        }

        public char withKey(int key) {
            if (parts.stream().anyMatch(part -> part.withKey(key) == 't')) {
                return 't';
            }
            return parts.stream().anyMatch(part -> part.withKey(key) == 'o') ? 'o' : 'f';
        }
    }
}
