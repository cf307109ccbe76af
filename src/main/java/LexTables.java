/**
 * Rules for words, written as expressions, and a text cut into the longest words from the left.
 *
 * Every token taken is a node, numbered in the order of taking. A token only ever takes
 * expressions that stand on the stack already, so the parts of a node have lesser numbers than
 * the node itself, and one pass over the numbers works out all nodes without recursion.
 */
public final class LexTables {
    public static final int LETTER = 0;
    public static final int ANY = 1;
    public static final int EMPTY = 2;
    public static final int THEN = 3;
    public static final int OR = 4;
    public static final int STAR = 5;
    public static final int PLUS = 6;
    public static final int RULE = 7;

    private static final int LETTER_MASK = 3;
    private static final int LETTER_BITS = 2;
    private static final int MAX_TOKENS = 40;
    private static final int MAX_RULES = 5;
    private static final int MAX_LETTERS = 30;
    private static final int MAX_COUNTED = 4;
    private static final int PLACES = MAX_LETTERS + 1;
    private static final int ALL_PLACES = MAX_TOKENS * PLACES;

    private final int[] codes = new int[MAX_TOKENS];
    private final int[] letters = new int[MAX_TOKENS];
    private final int[] firsts = new int[MAX_TOKENS];
    private final int[] seconds = new int[MAX_TOKENS];
    private int tokenCount;

    private final int[] stack = new int[MAX_TOKENS];
    private int stackSize;

    private final int[] rules = new int[MAX_RULES];
    private int ruleCount;

    private final int[] text = new int[MAX_LETTERS];
    private int textLength;

    // What follows is worked out anew by each call that asks, so that no change of the rules or
    // of the text can leave it behind.

    // At node * PLACES + from stands the set of the places where a row of the node that begins
    // at from can end: bit to is set if the letters from from up to to are such a row. The
    // places are 0 to 30, so a set fits an int.
    private final int[] ends = new int[ALL_PLACES];

    private final int[] wordSorts = new int[MAX_LETTERS];
    private final int[] wordLengths = new int[MAX_LETTERS];
    private int wordCount;

    private final int[] counted = new int[MAX_COUNTED];

    public LexTables() {
        tokenCount = 0;
        stackSize = 0;
        ruleCount = 0;
        textLength = 0;
        wordCount = 0;
    }

    public int token(int code, int arg) {
        if (!canTake(code)) {
            return -1;
        }
        int parts = partsOf(code);
        int bottom = stackSize - parts;
        int node = tokenCount;
        codes[node] = code;
        letters[node] = arg & LETTER_MASK;
        // Where there is no part any node will do, as what is read through it is not used.
        firsts[node] = parts > 0 ? stack[bottom] : 0;
        seconds[node] = parts > 1 ? stack[bottom + 1] : 0;
        tokenCount = node + 1;
        if (code == RULE) {
            rules[ruleCount] = firsts[node];
            ruleCount++;
            stackSize = bottom;
        } else {
            stack[bottom] = node;
            stackSize = bottom + 1;
        }
        return stackSize;
    }

    public void clear() {
        tokenCount = 0;
        stackSize = 0;
        ruleCount = 0;
    }

    public int type(int letter) {
        if (textLength >= MAX_LETTERS) {
            return -1;
        }
        text[textLength] = letter & LETTER_MASK;
        textLength++;
        return textLength;
    }

    public void erase() {
        textLength = 0;
    }

    public int words() {
        cut();
        return wordCount;
    }

    public int sort(int word) {
        cut();
        return isWord(word) ? wordSorts[word] : -2;
    }

    public int length(int word) {
        cut();
        return isWord(word) ? wordLengths[word] : 0;
    }

    public int matches(int rule) {
        if (!isRule(rule)) {
            return -1;
        }
        findEnds(text, textLength);
        return isRow(rule, 0, textLength) ? 1 : 0;
    }

    public int count(int rule, int n) {
        if (!isRule(rule) || n < 0 || n > MAX_COUNTED) {
            return -1;
        }
        int candidates = 1 << (LETTER_BITS * n);
        int found = 0;
        for (int candidate = 0; candidate < candidates; candidate++) {
            spell(candidate, n);
            findEnds(counted, n);
            if (isRow(rule, 0, n)) {
                found++;
            }
        }
        return found;
    }

    public int sortOf(int from, int to) {
        if (from < 0 || from > to || to > textLength) {
            return -2;
        }
        findEnds(text, textLength);
        return leastRule(from, to);
    }

    private boolean canTake(int code) {
        if (code < LETTER || code > RULE || tokenCount >= MAX_TOKENS) {
            return false;
        }
        if (code == RULE && ruleCount >= MAX_RULES) {
            return false;
        }
        return stackSize >= partsOf(code);
    }

    private static int partsOf(int code) {
        switch (code) {
            case THEN:
            case OR:
                return 2;
            case STAR:
            case PLUS:
            case RULE:
                return 1;
            default:
                return 0;
        }
    }

    private boolean isRule(int rule) {
        return rule >= 0 && rule < ruleCount;
    }

    private boolean isWord(int word) {
        return word >= 0 && word < wordCount;
    }

    private void findEnds(int[] row, int size) {
        for (int node = 0; node < tokenCount; node++) {
            // From the right, because a repetition looks at its own ends at later places.
            for (int from = size; from >= 0; from--) {
                ends[node * PLACES + from] = endsOf(node, from, row, size);
            }
        }
    }

    private int endsOf(int node, int from, int[] row, int size) {
        int first = ends[firsts[node] * PLACES + from];
        switch (codes[node]) {
            case LETTER:
                return from < size && row[from] == letters[node] ? 1 << (from + 1) : 0;
            case ANY:
                return from < size ? 1 << (from + 1) : 0;
            case EMPTY:
                return 1 << from;
            case THEN:
                return endsAfter(first, seconds[node], from, size);
            case OR:
                return first | ends[seconds[node] * PLACES + from];
            // An empty part adds nothing to a repetition that has another part, so only the
            // parts that end later than from are gone on from.
            case STAR:
                return (1 << from) | endsAfter(first, node, from + 1, size);
            case PLUS:
                return first | endsAfter(first, node, from + 1, size);
            // The token RULE stands for no expression; its rule names the part instead.
            default:
                return 0;
        }
    }

    private int endsAfter(int places, int node, int least, int size) {
        int found = 0;
        for (int place = least; place <= size; place++) {
            if (((places >>> place) & 1) == 1) {
                found |= ends[node * PLACES + place];
            }
        }
        return found;
    }

    private boolean isRow(int rule, int from, int to) {
        return ((ends[rules[rule] * PLACES + from] >>> to) & 1) == 1;
    }

    private int leastRule(int from, int to) {
        for (int rule = 0; rule < ruleCount; rule++) {
            if (isRow(rule, from, to)) {
                return rule;
            }
        }
        return -1;
    }

    private void cut() {
        findEnds(text, textLength);
        wordCount = 0;
        int next = 0;
        for (int place = 0; place < textLength; place++) {
            if (place == next) {
                next = endOfWord(place);
                wordLengths[wordCount] = next - place;
                wordSorts[wordCount] = leastRule(place, next);
                wordCount++;
            }
        }
    }

    private int endOfWord(int from) {
        for (int to = textLength; to > from; to--) {
            if (leastRule(from, to) >= 0) {
                return to;
            }
        }
        // No rule has a beginning of the rest: the word is one letter, and since no rule has
        // that letter either, leastRule answers the sort -1 for it.
        return from + 1;
    }

    private void spell(int candidate, int n) {
        for (int place = 0; place < n; place++) {
            counted[place] = (candidate >>> (LETTER_BITS * place)) & LETTER_MASK;
        }
    }
}
