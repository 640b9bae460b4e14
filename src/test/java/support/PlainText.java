import java.util.ArrayList;
import java.util.List;
import java.util.Map;
import java.util.regex.Matcher;
import java.util.regex.Pattern;

/** A text as the document tells it: tokens by a pattern, formulas as trees, faults as exceptions. */
final class PlainText {
    interface Tree {
        long at(Map<String, Integer> names);
    }

    private static final class Wrong extends RuntimeException {
        private static final long serialVersionUID = 1L;
        final int fault;
        final int place;

        Wrong(int fault, int place) {
            this.fault = fault;
            this.place = place;
        }
    }

    private static final Pattern TOKEN = Pattern.compile("[a-zA-Z]+|[0-9]+|<=|>=|[<>=#+*/();-]|[^ \n]", Pattern.DOTALL);
    private static final List<String> NAMES = List.of("place", "from", "into", "hand", "last", "far");

    final List<Plain.Known> entries = new ArrayList<>();
    final List<int[]> roads = new ArrayList<>();
    Tree may;
    Tree weight;
    int fault;
    int faultAt;

    private final int a;
    private final int l;
    private final List<String> tokens = new ArrayList<>();
    private final List<Integer> places = new ArrayList<>();
    private int at = 0;
    private int open = 0;

    PlainText(String source, int a, int l) {
        this.a = a;
        this.l = l;
        Matcher m = TOKEN.matcher(source);
        while (m.find()) {
            tokens.add(m.group());
            places.add(m.start());
        }
        tokens.add("");
        places.add(source.length());
        try {
            all();
        } catch (Wrong w) {
            fault = w.fault;
            faultAt = w.place;
        }
    }

    private String token() {
        return tokens.get(at);
    }

    private Wrong wrong(int kind) {
        return new Wrong(kind, places.get(at));
    }

    private void need(String what) {
        if (!token().equals(what)) {
            throw wrong(1);
        }
        at++;
    }

    private boolean accept(String what) {
        if (token().equals(what)) {
            at++;
            return true;
        }
        return false;
    }

    private void all() {
        for (int clause = 1; !token().isEmpty(); clause++) {
            String first = token();
            if (!List.of("may", "weight", "book", "road").contains(first)) {
                throw wrong(1);
            }
            if (first.equals("may") && may != null || first.equals("weight") && weight != null) {
                throw wrong(4);
            }
            if (clause == 25) {
                throw wrong(5);
            }
            at++;
            switch (first) {
                case "may" -> may = either();
                case "weight" -> weight = sum();
                case "book" -> {
                    String word = word();
                    entries.add(new Plain.Known(word, number(1, 9)));
                }
                default -> {
                    int least = number(0, 8);
                    need("to");
                    roads.add(new int[] {least, number(least, 8)});
                }
            }
            need(";");
        }
    }

    private String word() {
        String word = token();
        if (!word.matches("[a-zA-Z]+")) {
            throw wrong(1);
        }
        if (word.length() != l || !word.matches("[a-" + (char) ('a' + a - 1) + "]+")) {
            throw wrong(2);
        }
        at++;
        return word;
    }

    private int number(int least, int most) {
        String digits = token();
        if (!digits.matches("[0-9]+")) {
            throw wrong(1);
        }
        java.math.BigInteger value = new java.math.BigInteger(digits);
        if (value.bitLength() > 30 || value.intValue() < least || value.intValue() > most) {
            throw wrong(2);
        }
        at++;
        return value.intValue();
    }

    private Tree either() {
        Tree left = both();
        while (accept("or")) {
            Tree one = left;
            Tree other = both();
            left = names -> one.at(names) + other.at(names) > 0 ? 1 : 0;
        }
        return left;
    }

    private Tree both() {
        Tree left = ask();
        while (accept("and")) {
            Tree one = left;
            Tree other = ask();
            left = names -> one.at(names) * other.at(names);
        }
        return left;
    }

    private void opens() {
        if (open == 8) {
            throw wrong(3);
        }
        open++;
        at++;
    }

    private Tree ask() {
        if (token().equals("not")) {
            opens();
            Tree inner = ask();
            open--;
            return names -> inner.at(names) == 0 ? 1 : 0;
        }
        Tree left = sum();
        String sign = token();
        if (!List.of("<", "<=", ">", ">=", "=", "#").contains(sign)) {
            throw wrong(1);
        }
        at++;
        Tree right = sum();
        return names -> {
            int c = Long.compare(left.at(names), right.at(names));
            boolean so = sign.equals("#") ? c != 0
                    : c < 0 && sign.startsWith("<") || c > 0 && sign.startsWith(">") || c == 0 && sign.endsWith("=");
            return so ? 1 : 0;
        };
    }

    private static long bound(long x) {
        return x > 1000000 ? 1000000 : x < -1000000 ? -1000000 : x;
    }

    private Tree sum() {
        Tree left = product();
        while (token().equals("+") || token().equals("-")) {
            int sign = token().equals("+") ? 1 : -1;
            at++;
            Tree one = left;
            Tree other = product();
            left = names -> bound(one.at(names) + sign * other.at(names));
        }
        return left;
    }

    private Tree product() {
        Tree left = one();
        while (token().equals("*") || token().equals("/")) {
            boolean times = token().equals("*");
            at++;
            Tree one = left;
            Tree other = one();
            left = names -> {
                long x = one.at(names);
                long y = other.at(names);
                return times ? bound(x * y) : y == 0 ? 0 : bound(x / y);
            };
        }
        return left;
    }

    private Tree one() {
        String first = token();
        if (first.matches("[0-9]+")) {
            int value = number(0, 9999);
            return names -> value;
        }
        if (NAMES.contains(first)) {
            at++;
            return names -> names.get(first);
        }
        if (first.equals("(")) {
            opens();
            Tree inner = sum();
            need(")");
            open--;
            return inner;
        }
        if (first.equals("-")) {
            opens();
            Tree inner = one();
            open--;
            return names -> -inner.at(names);
        }
        throw wrong(1);
    }
}
