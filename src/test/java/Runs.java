import java.util.function.Consumer;

/** Short ways to write down runs of calls, and what they answer. */
final class Runs {
    static final int LETTER = LexTables.LETTER;
    static final int ANY = LexTables.ANY;
    static final int EMPTY = LexTables.EMPTY;
    static final int THEN = LexTables.THEN;
    static final int OR = LexTables.OR;
    static final int STAR = LexTables.STAR;
    static final int PLUS = LexTables.PLUS;
    static final int RULE = LexTables.RULE;

    static final int LEAST = Integer.MIN_VALUE;
    static final int MOST = Integer.MAX_VALUE;

    /** As many letters as a text can have. */
    static final String THIRTY = "012301230123012301230123012301";

    /** As many tokens as can be taken, RULE among them: the one row of the rule is twenty letters. */
    static final String FORTY = "01,2,3,0,1,2,3,0,1,2,3,0,1,2,3,0,1,2,3,;";

    /** As many rules as can be made. */
    static final String FIVE_RULES = "0;1;2;3;.;";

    private Runs() { }

    /**
     * Takes a token for each sign: a digit is that letter, '.' ANY, 'e' EMPTY, ',' THEN, '|' OR,
     * '*' STAR, '+' PLUS, ';' RULE. Answers what the last one answered.
     */
    static int build(LexTables x, String tokens) {
        int answer = 0;
        for (char sign : tokens.toCharArray()) {
            int other = ".e,|*+;".indexOf(sign);
            answer = other < 0 ? x.token(LETTER, sign - '0') : x.token(ANY + other, 0);
        }
        return answer;
    }

    /** Types a letter for each digit. Answers what the last one answered. */
    static int typeAll(LexTables x, String letters) {
        int answer = 0;
        for (char letter : letters.toCharArray()) {
            answer = x.type(letter - '0');
        }
        return answer;
    }

    static void write(LexTables x, String letters) {
        x.erase();
        typeAll(x, letters);
    }

    static Consumer<LexTables> run(String tokens, String letters) {
        return x -> {
            build(x, tokens);
            typeAll(x, letters);
        };
    }

    static LexTables made(String tokens, String letters) {
        LexTables x = new LexTables();
        run(tokens, letters).accept(x);
        return x;
    }

    /** Whether the letters are a row of the expression, which is made the only rule. */
    static int matches(String expression, String letters) {
        return made(expression + ";", letters).matches(0);
    }

    /** How many rows of 0 to 4 letters the expression has, which is made the only rule. */
    static String counts(String expression) {
        return counts(made(expression + ";", ""), 0);
    }

    static String counts(LexTables x, int rule) {
        StringBuilder all = new StringBuilder();
        for (int n = 0; n <= 4; n++) {
            all.append(n == 0 ? "" : " ").append(x.count(rule, n));
        }
        return all.toString();
    }

    /** The cut as one text: "length:sort" for each word. */
    static String cut(LexTables x) {
        StringBuilder all = new StringBuilder();
        int words = x.words();
        for (int word = 0; word < words; word++) {
            all.append(word == 0 ? "" : " ").append(x.length(word)).append(':').append(x.sort(word));
        }
        return all.toString();
    }

    static String cut(String tokens, String letters) {
        return cut(made(tokens, letters));
    }
}
