import java.util.ArrayList;
import java.util.List;

/** Reads a text by recursive descent, one method for each word of the document's grammar. */
final class ModelReader {
    /** The chain of errors of a wrong text. */
    static final class Wrong extends RuntimeException {
        private static final long serialVersionUID = 1;
        final transient List<Integer> chain;

        Wrong(List<Integer> chain) {
            this.chain = chain;
        }
    }

    private final String text;
    private int at = 0;
    private int nodeAt = 0;
    private int partAt = 0;
    private boolean inState = false;

    ModelReader(String text) {
        this.text = text;
    }

    List<Model.Node> tree() {
        List<Model.Node> nodes = new ArrayList<>();
        nodes.add(node(0));
        while (at < text.length()) {
            at++;
            nodes.add(node(nodes.size()));
        }
        return nodes;
    }

    private boolean next(String signs) {
        return at < text.length() && signs.indexOf(text.charAt(at)) >= 0;
    }

    private boolean take(char sign) {
        if (!next(String.valueOf(sign))) {
            return false;
        }
        at++;
        return true;
    }

    private Wrong wrongPart() {
        return new Wrong(List.of(nodeAt, partAt));
    }

    private Wrong wrongSign(int position) {
        return new Wrong(List.of(nodeAt, partAt, position));
    }

    private void need(char sign) {
        if (!take(sign)) {
            throw wrongSign(at);
        }
    }

    private Model.Node node(int number) {
        nodeAt = at;
        partAt = at;
        if (number == 12) {
            throw wrongPart();
        }
        int parent = number == 0 ? -1 : parent(number);
        partAt = at;
        inState = false;
        Model.Formula rank = sum();
        Model.Formula state = null;
        if (take(':')) {
            inState = true;
            state = sum();
        }
        int rate = 0;
        int burst = 0;
        partAt = at;
        if (number > 0 && take('@')) {
            int rateAt = at;
            rate = number(4);
            if (rate == 0) {
                throw wrongSign(rateAt);
            }
            need(',');
            burst = number(4);
        }
        int tie = take('^') ? 1 : take('%') ? 2 : take('&') ? 3 : 0;
        partAt = at;
        if (at < text.length() && !next(";")) {
            throw wrongPart();
        }
        return new Model.Node(parent, rank, state, rate, burst, tie);
    }

    private int parent(int number) {
        int end = text.indexOf('<', at);
        String digits = end < 0 ? "" : text.substring(at, end);
        if (!digits.matches("[0-9]{1,2}") || Integer.parseInt(digits) >= number) {
            throw wrongPart();
        }
        at = end + 1;
        return Integer.parseInt(digits);
    }

    private int number(int most) {
        int from = at;
        while (next("0123456789")) {
            if (at - from == most) {
                throw wrongSign(at);
            }
            at++;
        }
        if (at == from) {
            throw wrongSign(at);
        }
        return Integer.parseInt(text.substring(from, at));
    }

    private Model.Formula sum() {
        Model.Formula left = product();
        while (next("+-")) {
            boolean plus = text.charAt(at++) == '+';
            Model.Formula x = left;
            Model.Formula y = product();
            left = plus ? v -> x.of(v) + y.of(v) : v -> x.of(v) - y.of(v);
        }
        return left;
    }

    private Model.Formula product() {
        Model.Formula left = factor();
        while (next("*/")) {
            boolean times = text.charAt(at++) == '*';
            Model.Formula x = left;
            Model.Formula y = factor();
            left = times ? v -> x.of(v) * y.of(v) : v -> y.of(v) == 0 ? 0 : x.of(v) / y.of(v);
        }
        return left;
    }

    private Model.Formula factor() {
        if (next("0123456789")) {
            long number = number(6);
            return v -> number;
        }
        if (take('-')) {
            Model.Formula x = factor();
            return v -> -x.of(v);
        }
        if (take('(')) {
            Model.Formula x = sum();
            need(')');
            return x;
        }
        if (next("Mm")) {
            boolean greater = text.charAt(at++) == 'M';
            need('(');
            Model.Formula x = sum();
            need(',');
            Model.Formula y = sum();
            need(')');
            return greater ? v -> Math.max(x.of(v), y.of(v)) : v -> Math.min(x.of(v), y.of(v));
        }
        if (!next(inState ? "pldfwatvnr" : "pldfwatvn")) {
            throw wrongSign(at);
        }
        int variable = "pldfwatvnr".indexOf(text.charAt(at++));
        return v -> v[variable];
    }
}
