import java.util.ArrayList;
import java.util.HashMap;
import java.util.List;
import java.util.Map;
import java.util.TreeMap;

/**
 * The document once more, in another way, to compare LexTables with: whether a row belongs to an
 * expression is found by taking the derivative of the expression by each letter in turn, where
 * LexTables works with sets of places.
 */
final class Model {
    /** An expression in a form in which equal ones have equal keys. */
    private static final class Expr {
        final String key;
        final char kind;
        final boolean hasEmpty;
        final int letters;
        final List<Expr> parts;
        final Expr[] derivatives = new Expr[4];

        Expr(String key, char kind, boolean hasEmpty, int letters, List<Expr> parts) {
            this.key = key;
            this.kind = kind;
            this.hasEmpty = hasEmpty;
            this.letters = letters;
            this.parts = parts;
        }
    }

    record Word(int length, int sort) { }

    private final Map<String, Expr> known = new HashMap<>();
    private final Expr none = make("0", '0', false, 0, List.of());
    private final Expr empty = make("1", '1', true, 0, List.of());

    private final List<Expr> stack = new ArrayList<>();
    private final List<Expr> rules = new ArrayList<>();
    private final List<Integer> text = new ArrayList<>();
    private int tokens = 0;

    int token(int code, int arg) {
        int needed = code == 3 || code == 4 ? 2 : code >= 5 ? 1 : 0;
        boolean wrong = code < 0 || code > 7 || stack.size() < needed || tokens == 40
            || code == 7 && rules.size() == 5;
        if (wrong) {
            return -1;
        }
        tokens++;
        Expr top = needed >= 1 ? pop() : null;
        Expr below = needed == 2 ? pop() : null;
        switch (code) {
            case 0 -> stack.add(oneOf(1 << (arg & 3)));
            case 1 -> stack.add(oneOf(15));
            case 2 -> stack.add(empty);
            case 3 -> stack.add(then(below, top));
            case 4 -> stack.add(or(List.of(below, top)));
            case 5 -> stack.add(star(top));
            case 6 -> stack.add(then(top, star(top)));
            default -> rules.add(top);
        }
        return stack.size();
    }

    void clear() {
        stack.clear();
        rules.clear();
        tokens = 0;
    }

    int type(int letter) {
        if (text.size() == 30) {
            return -1;
        }
        text.add(letter & 3);
        return text.size();
    }

    void erase() {
        text.clear();
    }

    int words() {
        return cut().size();
    }

    int sort(int word) {
        List<Word> cut = cut();
        return word < 0 || word >= cut.size() ? -2 : cut.get(word).sort();
    }

    int length(int word) {
        List<Word> cut = cut();
        return word < 0 || word >= cut.size() ? 0 : cut.get(word).length();
    }

    int matches(int rule) {
        if (rule < 0 || rule >= rules.size()) {
            return -1;
        }
        return isRow(rules.get(rule), text) ? 1 : 0;
    }

    int count(int rule, int n) {
        if (n < 0 || n > 4 || rule < 0 || rule >= rules.size()) {
            return -1;
        }
        return countFrom(rules.get(rule), n);
    }

    int sortOf(int from, int to) {
        if (from < 0 || to < from || to > text.size()) {
            return -2;
        }
        return leastRule(text.subList(from, to));
    }

    private List<Word> cut() {
        List<Word> words = new ArrayList<>();
        int from = 0;
        while (from < text.size()) {
            int to = text.size();
            while (to > from && leastRule(text.subList(from, to)) < 0) {
                to--;
            }
            int length = to == from ? 1 : to - from;
            int sort = to == from ? -1 : leastRule(text.subList(from, to));
            words.add(new Word(length, sort));
            from += length;
        }
        return words;
    }

    private int leastRule(List<Integer> row) {
        for (int rule = 0; rule < rules.size(); rule++) {
            if (isRow(rules.get(rule), row)) {
                return rule;
            }
        }
        return -1;
    }

    private boolean isRow(Expr expr, List<Integer> row) {
        Expr rest = expr;
        for (int letter : row) {
            rest = derivative(rest, letter);
        }
        return rest.hasEmpty;
    }

    private int countFrom(Expr expr, int n) {
        if (n == 0) {
            return expr.hasEmpty ? 1 : 0;
        }
        int found = 0;
        for (int letter = 0; letter < 4; letter++) {
            found += countFrom(derivative(expr, letter), n - 1);
        }
        return found;
    }

    private Expr pop() {
        return stack.remove(stack.size() - 1);
    }

    /** The expression of what can follow the letter in the rows of expr that begin with it. */
    private Expr derivative(Expr expr, int letter) {
        if (expr.derivatives[letter] == null) {
            expr.derivatives[letter] = newDerivative(expr, letter);
        }
        return expr.derivatives[letter];
    }

    private Expr newDerivative(Expr expr, int letter) {
        switch (expr.kind) {
            case 'L':
                return (expr.letters >> letter & 1) == 1 ? empty : none;
            case 'T': {
                Expr first = expr.parts.get(0);
                Expr second = expr.parts.get(1);
                Expr through = then(derivative(first, letter), second);
                return first.hasEmpty ? or(List.of(through, derivative(second, letter))) : through;
            }
            case 'O': {
                List<Expr> all = new ArrayList<>();
                for (Expr part : expr.parts) {
                    all.add(derivative(part, letter));
                }
                return or(all);
            }
            case 'S':
                return then(derivative(expr.parts.get(0), letter), expr);
            default:
                return none;
        }
    }

    private Expr oneOf(int letters) {
        return make("L" + letters, 'L', false, letters, List.of());
    }

    private Expr then(Expr first, Expr second) {
        if (first == none || second == none) {
            return none;
        }
        if (first == empty) {
            return second;
        }
        if (second == empty) {
            return first;
        }
        // Leaning to the right keeps the number of different derivatives small.
        if (first.kind == 'T') {
            return then(first.parts.get(0), then(first.parts.get(1), second));
        }
        boolean hasEmpty = first.hasEmpty && second.hasEmpty;
        return make("T(" + first.key + second.key + ")", 'T', hasEmpty, 0, List.of(first, second));
    }

    private Expr or(List<Expr> all) {
        TreeMap<String, Expr> parts = new TreeMap<>();
        for (Expr expr : all) {
            for (Expr part : expr.kind == 'O' ? expr.parts : List.of(expr)) {
                if (part != none) {
                    parts.put(part.key, part);
                }
            }
        }
        if (parts.isEmpty()) {
            return none;
        }
        if (parts.size() == 1) {
            return parts.firstEntry().getValue();
        }
        boolean hasEmpty = false;
        for (Expr part : parts.values()) {
            hasEmpty |= part.hasEmpty;
        }
        String key = "O(" + String.join("", parts.keySet()) + ")";
        return make(key, 'O', hasEmpty, 0, new ArrayList<>(parts.values()));
    }

    private Expr star(Expr part) {
        if (part == none || part == empty) {
            return empty;
        }
        return part.kind == 'S' ? part : make("S(" + part.key + ")", 'S', true, 0, List.of(part));
    }

    private Expr make(String key, char kind, boolean hasEmpty, int letters, List<Expr> parts) {
        return known.computeIfAbsent(key, k -> new Expr(k, kind, hasEmpty, letters, parts));
    }
}
