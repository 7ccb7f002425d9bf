import java.util.ArrayDeque;
import java.util.Deque;
import java.util.HashMap;
import java.util.HashSet;
import java.util.List;
import java.util.Map;
import java.util.Set;

/**
 * A second reader of texts, without any recursion: it holds a stack of what is open and looks whether the next
 * word, number or sign may stand there.
 */
final class Reading {
    private static final List<String> OWN = List.of("who", "alone", "road", "worth", "when", "taste", "less",
            "doubt", "or", "and", "not", "all", "day", "week", "wday", "min", "max");

    private final String text;
    private int at;
    private int start;
    private String word;
    private final Set<String> names = new HashSet<>();
    private final Map<String, Integer> kinds = new HashMap<>();
    private final Set<String> pairs = new HashSet<>();
    int statements;
    int fault;
    int place = -1;

    Reading(String text) {
        this.text = text;
        while (fault == 0 && next()) {
            statement();
        }
        if (fault != 0) {
            statements = -1;
        }
    }

    /** The next word, number or sign; false at the end, or with a fault. */
    private boolean next() {
        int before = at;
        while (at < text.length() && (text.charAt(at) == ' ' || text.charAt(at) == '\n')) {
            at++;
        }
        start = at;
        if (at == text.length()) {
            word = "";
            return false;
        }
        boolean letters = isLetter(at);
        boolean digits = isDigit(at);
        boolean glued = at == before && at > 0 && (isLetter(at - 1) || isDigit(at - 1));
        if (glued && (letters || digits)) {
            return wrong(1);
        }
        while (letters && isLetter(at) || digits && isDigit(at)) {
            at++;
        }
        at = Math.max(at, start + 1);
        word = text.substring(start, at);
        int most = letters ? 6 : digits ? 4 : 1;
        if (word.length() > most) {
            start += most;
            return wrong(1);
        }
        return true;
    }

    private boolean isLetter(int k) {
        return k < text.length() && text.charAt(k) >= 'a' && text.charAt(k) <= 'z';
    }

    private boolean isDigit(int k) {
        return k < text.length() && text.charAt(k) >= '0' && text.charAt(k) <= '9';
    }

    private boolean wrong(int kind) {
        if (fault == 0) {
            fault = kind;
            place = start;
        }
        return false;
    }

    /** The next one must be there, and be this. */
    private boolean must(String... some) {
        if (next()) {
            for (String one : some) {
                if (word.equals(one)) {
                    return true;
                }
            }
        }
        return wrong(1);
    }

    private boolean number() {
        return next() && word.charAt(0) >= '0' && word.charAt(0) <= '9' || wrong(1);
    }

    private boolean name(boolean known) {
        if (!next() || !Character.isLowerCase(word.charAt(0)) || OWN.contains(word)) {
            return wrong(1);
        }
        return names.contains(word) == known || wrong(known ? 3 : 2);
    }

    private void statement() {
        String kind = word;
        int most = kind.equals("who") ? 12 : kind.equals("road") ? 30
                : kind.equals("taste") || kind.equals("doubt") ? 24 : -1;
        if (most < 0) {
            wrong(1);
            return;
        }
        if (kinds.merge(kind, 1, Integer::sum) > most) {
            wrong(5);
            return;
        }
        boolean right;
        if (kind.equals("who")) {
            right = name(false) && names.add(word) && must("alone") && number() && must(";");
        } else if (!twoNames(kind)) {
            right = false;
        } else if (kind.equals("road")) {
            right = must("worth") && sums();
        } else if (kind.equals("taste") && next() && word.equals("less")) {
            right = number() && must(";");
        } else if (kind.equals("taste")) {
            right = fault == 0 && !word.isEmpty() && Character.isDigit(word.charAt(0)) && must(";") || wrong(1);
        } else {
            right = number() && must(";");
        }
        statements += right ? 1 : 0;
    }

    private boolean twoNames(String kind) {
        if (!name(true)) {
            return false;
        }
        String one = word;
        if (!name(true)) {
            return false;
        }
        if (one.equals(word)) {
            return wrong(3);
        }
        String road = one.compareTo(word) < 0 ? one + "-" + word : word + "-" + one;
        if (kind.equals("doubt")) {
            return pairs.contains(road) || wrong(3);
        }
        return pairs.add(kind.equals("road") ? road : one + ">" + word) || wrong(2);
    }

    // What is open: S the sum of a road, T its test, ( a sum, m and M the first and the second of two, [ a test.
    private final Deque<Character> open = new ArrayDeque<>();
    // Of each test that is open: 0 a fact begins, 1 the left sum, 2 the right one, 3 all is told of the fact.
    private final Deque<Integer> facts = new ArrayDeque<>();

    private boolean inTest() {
        return open.peek() == 'T' || open.peek() == '[';
    }

    private boolean inFact(int... some) {
        for (int one : some) {
            if (inTest() && facts.peek() == one) {
                return true;
            }
        }
        return false;
    }

    private boolean setFact(int now) {
        facts.pop();
        facts.push(now);
        return true;
    }

    private boolean opens(char sign) {
        if (open.size() > 8) {
            return wrong(5);
        }
        open.push(sign);
        if (sign == '[') {
            facts.push(0);
        }
        return true;
    }

    private boolean sums() {
        open.clear();
        facts.clear();
        open.push('S');
        boolean wanted = true;
        while (true) {
            if (!next()) {
                return wrong(1);
            }
            if (word.equals(";") && !wanted && (open.peek() == 'S' || open.peek() == 'T' && inFact(2, 3))) {
                return true;
            }
            if (wanted) {
                if (!operand()) {
                    return wrong(1);
                }
                wanted = List.of("(", "[", "min", "max", "not").contains(word) || opened;
            } else {
                if (!between()) {
                    return wrong(1);
                }
                wanted = !word.equals(")") && !word.equals("]");
            }
        }
    }

    private boolean opened;

    private boolean operand() {
        opened = false;
        if (inFact(0)) {
            switch (word) {
                case "not": return true;
                case "all": return setFact(3);
                case "[": return opens('[');
                default: break;
            }
        }
        if (word.equals("[") || word.equals("not")) {
            return false;
        }
        boolean first = inFact(0);
        boolean right = true;
        switch (word) {
            case "(":
                if (first) {
                    setFact(1);
                }
                return opens('(');
            case "min":
            case "max":
                if (first) {
                    setFact(1);
                }
                opened = true;
                return must("(") && opens('m');
            case "alone":
                right = name(true);
                break;
            case "day":
            case "week":
            case "wday":
                break;
            default:
                right = Character.isDigit(word.charAt(0));
        }
        if (first && right) {
            setFact(1);
        }
        return right;
    }

    private boolean between() {
        switch (word) {
            case "+": case "-": case "*": case "/": case "%":
                return !inFact(3);
            case "<": case ">": case "=":
                return inFact(1) && setFact(2);
            case "and": case "or":
                return inFact(2, 3) && setFact(0);
            case ",":
                return open.peek() == 'm' && open.pop() == 'm' && opens('M');
            case ")":
                return (open.peek() == '(' || open.peek() == 'M') && open.pop() > 0;
            case "]":
                if (open.peek() != '[' || !inFact(2, 3)) {
                    return false;
                }
                open.pop();
                facts.pop();
                return setFact(3);
            case "when":
                if (open.peek() != 'S') {
                    return false;
                }
                open.pop();
                open.push('T');
                facts.push(0);
                return true;
            default:
                return false;
        }
    }
}
