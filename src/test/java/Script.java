import java.util.ArrayList;
import java.util.HashMap;
import java.util.List;
import java.util.Map;

/** A second reading of the document's language, for ModelTest: trees of closures, faults as exceptions. */
final class Script {
    interface Sum {
        long of(Map<String, Integer> names);
    }

    interface Ask {
        boolean of(Map<String, Integer> names);
    }

    static final class Fault extends Exception {
        private static final long serialVersionUID = 1L;
        final int number;
        final int place;

        Fault(int number, int place) {
            this.number = number;
            this.place = place;
        }
    }

    private static final Map<String, String> NAMES = Map.of("smoke", "hour",
            "cost", "hour blower lungs voice beads",
            "brittle", "hour kind want worth quarrels many",
            "share", "hour blower lungs voice beads kind want worth breaths");
    private static final List<String> ALL_NAMES = List.of("hour", "blower", "lungs", "voice", "beads", "kind", "want",
            "worth", "breaths", "quarrels", "many");

    final Map<String, Sum> laws = new HashMap<>();
    final List<List<Integer>> deeds = new ArrayList<>();

    private final List<String> tokens = new ArrayList<>();
    private final List<Integer> places = new ArrayList<>();
    private int at;
    private int open;
    private String law;

    Script(String text) throws Fault {
        cut(text);
        int clauses = 0;
        while (!peek().isEmpty()) {
            clause(clauses++);
        }
    }

    private void cut(String text) {
        int i = 0;
        while (i < text.length()) {
            String rest = text.substring(i);
            if (rest.charAt(0) == ' ' || rest.charAt(0) == '\n') {
                i++;
                continue;
            }
            String token = rest.substring(0, 1);
            for (String form : new String[] {"[a-zA-Z]+", "[0-9]+", "<=|>="}) {
                java.util.regex.Matcher m = java.util.regex.Pattern.compile(form).matcher(rest);
                if (m.lookingAt()) {
                    token = m.group();
                }
            }
            tokens.add(token);
            places.add(i);
            i += token.length();
        }
        tokens.add("");
        places.add(text.length());
    }

    private String peek() {
        return tokens.get(at);
    }

    private Fault fault(int number) {
        return new Fault(number, places.get(at));
    }

    private void take(String due) throws Fault {
        if (!peek().equals(due)) {
            throw fault(1);
        }
        at++;
    }

    private boolean isNumber() {
        return peek().matches("[0-9]+");
    }

    private int number(int low, int high) throws Fault {
        if (!isNumber()) {
            throw fault(1);
        }
        java.math.BigInteger value = new java.math.BigInteger(peek());
        if (value.bitLength() > 30 || value.intValue() < low || value.intValue() > high) {
            throw fault(2);
        }
        at++;
        return value.intValue();
    }

    private void clause(int index) throws Fault {
        String word = peek();
        if (!List.of("smoke", "cost", "brittle", "share", "begin", "blow", "wait").contains(word)) {
            throw fault(1);
        }
        if (laws.containsKey(word)) {
            throw fault(4);
        }
        if (index >= 24) {
            throw fault(6);
        }
        at++;
        switch (word) {
            case "begin" -> deeds.add(List.of(1, number(0, 5)));
            case "wait" -> deeds.add(List.of(3, number(1, 99)));
            case "blow" -> {
                int piece = number(0, 9);
                take("by");
                int blower = number(0, 5);
                take("give");
                deeds.add(List.of(2, piece, blower, number(1, 9)));
            }
            default -> {
                law = word;
                laws.put(word, sum());
                deeds.add(List.of(0));
            }
        }
        take(";");
    }

    private static long cap(long x) {
        return Math.max(-1000000, Math.min(1000000, x));
    }

    private Sum sum() throws Fault {
        Sum left = product();
        while (peek().equals("+") || peek().equals("-")) {
            boolean plus = tokens.get(at++).equals("+");
            Sum one = left;
            Sum other = product();
            left = n -> cap(plus ? one.of(n) + other.of(n) : one.of(n) - other.of(n));
        }
        return left;
    }

    private Sum product() throws Fault {
        Sum left = one();
        while (peek().equals("*") || peek().equals("/")) {
            boolean times = tokens.get(at++).equals("*");
            Sum one = left;
            Sum other = one();
            left = n -> cap(times ? one.of(n) * other.of(n) : other.of(n) == 0 ? 0 : one.of(n) / other.of(n));
        }
        return left;
    }

    private void down() throws Fault {
        if (open == 8) {
            throw fault(3);
        }
        open++;
        at++;
    }

    private Sum one() throws Fault {
        if (isNumber()) {
            long value = number(0, 9999);
            return n -> value;
        }
        String word = peek();
        if (word.equals("(")) {
            down();
            Sum inside = sum();
            take(")");
            open--;
            return inside;
        }
        if (word.equals("-")) {
            down();
            Sum inside = one();
            open--;
            return n -> -inside.of(n);
        }
        if (word.equals("if")) {
            down();
            Ask ask = either();
            take("?");
            Sum yes = sum();
            take(":");
            Sum no = sum();
            take("end");
            open--;
            return n -> ask.of(n) ? yes.of(n) : no.of(n);
        }
        if (!ALL_NAMES.contains(word)) {
            throw fault(1);
        }
        if (!List.of(NAMES.get(law).split(" ")).contains(word)) {
            throw fault(5);
        }
        at++;
        return n -> n.get(word);
    }

    private Ask either() throws Fault {
        Ask left = both();
        while (peek().equals("or")) {
            at++;
            Ask one = left;
            Ask other = both();
            left = n -> one.of(n) | other.of(n);
        }
        return left;
    }

    private Ask both() throws Fault {
        Ask left = ask();
        while (peek().equals("and")) {
            at++;
            Ask one = left;
            Ask other = ask();
            left = n -> one.of(n) & other.of(n);
        }
        return left;
    }

    private Ask ask() throws Fault {
        if (peek().equals("not")) {
            down();
            Ask inside = ask();
            open--;
            return n -> !inside.of(n);
        }
        Sum left = sum();
        String sign = peek();
        if (!List.of("<", "<=", ">", ">=", "=", "#").contains(sign)) {
            throw fault(1);
        }
        at++;
        Sum right = sum();
        return n -> {
            int order = Long.compare(left.of(n), right.of(n));
            return switch (sign) {
                case "<" -> order < 0;
                case "<=" -> order <= 0;
                case ">" -> order > 0;
                case ">=" -> order >= 0;
                case "=" -> order == 0;
                default -> order != 0;
            };
        };
    }
}
