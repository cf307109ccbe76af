/** The promises of the document one by one: ordinary inputs, the edges it names, wrong inputs. */
public final class PromiseTest {
    private static final int LETTER = LexTables.LETTER;
    private static final int ANY = LexTables.ANY;
    private static final int EMPTY = LexTables.EMPTY;
    private static final int THEN = LexTables.THEN;
    private static final int OR = LexTables.OR;
    private static final int STAR = LexTables.STAR;
    private static final int PLUS = LexTables.PLUS;
    private static final int RULE = LexTables.RULE;

    private static final int LEAST = Integer.MIN_VALUE;
    private static final int MOST = Integer.MAX_VALUE;

    private static final Checks CHECKS = new Checks();

    private static void due(String what, long got, long want) {
        CHECKS.due(what, got, want);
    }

    /**
     * Takes a token for each sign: a digit is that letter, '.' ANY, 'e' EMPTY, ',' THEN, '|' OR,
     * '*' STAR, '+' PLUS, ';' RULE. Answers what the last one answered.
     */
    private static int build(LexTables x, String tokens) {
        int answer = 0;
        for (char sign : tokens.toCharArray()) {
            int other = ".e,|*+;".indexOf(sign);
            answer = other < 0 ? x.token(LETTER, sign - '0') : x.token(ANY + other, 0);
        }
        return answer;
    }

    private static void write(LexTables x, String letters) {
        x.erase();
        for (char letter : letters.toCharArray()) {
            x.type(letter - '0');
        }
    }

    private static LexTables made(String tokens, String letters) {
        LexTables x = new LexTables();
        build(x, tokens);
        write(x, letters);
        return x;
    }

    private static int matches(String tokens, String letters) {
        return made(tokens + ";", letters).matches(0);
    }

    /** The cut as one text: "length:sort" for each word. */
    private static void dueCut(LexTables x, String want) {
        StringBuilder got = new StringBuilder();
        int words = x.words();
        for (int word = 0; word < words; word++) {
            got.append(word == 0 ? "" : " ").append(x.length(word)).append(':').append(x.sort(word));
        }
        CHECKS.holds("the cut " + want + " (it is " + got + ")", got.toString().equals(want));
        due("sort after the last word", x.sort(words), -2);
        due("length after the last word", x.length(words), 0);
    }

    public static void main(String[] args) {
        promise1NewObject();
        promise2TokenAnswers();
        promise2TokenRefuses();
        promise2TokenLimits();
        promise2Building();
        promise2Repetitions();
        promise3Clear();
        promise4Type();
        promise5Erase();
        promise6Words();
        promise7Sort();
        promise8Length();
        promise9Matches();
        promise10Count();
        promise11SortOf();
        objectsAreApart();
        CHECKS.finish("PromiseTest");
    }

    private static void promise1NewObject() {
        due("new: words", new LexTables().words(), 0);
        due("new: sort", new LexTables().sort(0), -2);
        due("new: length", new LexTables().length(0), 0);
        due("new: matches", new LexTables().matches(0), -1);
        due("new: count", new LexTables().count(0, 0), -1);
        due("new: sortOf the empty word", new LexTables().sortOf(0, 0), -1);
        due("new: sortOf past the text", new LexTables().sortOf(0, 1), -2);
        due("new: first letter", new LexTables().type(0), 1);
        due("new: first token", new LexTables().token(LETTER, 0), 1);
        for (int code = THEN; code <= RULE; code++) {
            due("new: token " + code, new LexTables().token(code, 0), -1);
        }
    }

    private static void promise2TokenAnswers() {
        LexTables x = new LexTables();
        due("LETTER", x.token(LETTER, 2), 1);
        due("ANY", x.token(ANY, 0), 2);
        due("EMPTY", x.token(EMPTY, 0), 3);
        due("STAR", x.token(STAR, 0), 3);
        due("PLUS", x.token(PLUS, 0), 3);
        due("THEN", x.token(THEN, 0), 2);
        due("OR", x.token(OR, 0), 1);
        due("LETTER again", x.token(LETTER, 1), 2);
        due("RULE with one left under it", x.token(RULE, 0), 1);
        due("the rule is the top one", x.count(0, 1), 1);
        due("RULE of the last", x.token(RULE, 0), 0);
        due("the next rule", x.count(1, 1), 4);
    }

    private static void promise2TokenRefuses() {
        LexTables x = new LexTables();
        for (int code : new int[] {LEAST, -8, -1, 8, 9, 15, 16, 256, MOST}) {
            due("code " + code, x.token(code, 0), -1);
        }
        for (int code : new int[] {THEN, OR, STAR, PLUS, RULE}) {
            due("code " + code + " on nothing", x.token(code, 0), -1);
        }
        due("one", x.token(LETTER, 0), 1);
        due("THEN on one", x.token(THEN, 0), -1);
        due("OR on one", x.token(OR, 0), -1);
        due("wrong code on one", x.token(8, 0), -1);
        due("the one is still there", x.token(RULE, 0), 0);
        due("nothing else is", x.token(RULE, 0), -1);
        write(x, "0");
        due("and unchanged", x.matches(0), 1);
        due("no second rule", x.matches(1), -1);
    }

    private static void promise2TokenLimits() {
        LexTables x = new LexTables();
        for (int i = 1; i <= 40; i++) {
            due("refused tokens are not counted", x.token(9, 0), -1);
            due("token " + i, x.token(LETTER, i), i);
        }
        for (int code = LETTER; code <= RULE; code++) {
            due("token 41, code " + code, x.token(code, 0), -1);
        }
        due("no rule out of it", x.matches(0), -1);

        LexTables y = new LexTables();
        due("RULE as token 40", build(y, "01,2,3,0,1,2,3,0,1,2,3,0,1,2,3,0,1,2,3,;"), 0);
        due("RULE was counted", y.token(LETTER, 0), -1);
        write(y, "01230123012301230123");
        due("the whole rule is kept", y.matches(0), 1);

        LexTables z = new LexTables();
        due("five rules", build(z, "0;1;2;3;.;"), 0);
        due("an expression for a sixth", z.token(LETTER, 0), 1);
        due("a sixth rule", z.token(RULE, 0), -1);
        due("its expression stays", z.token(LETTER, 1), 2);
        due("it can be built on", z.token(THEN, 0), 1);
        due("no rule 5", z.matches(5), -1);
        due("rule 4 is the fifth", z.count(4, 1), 4);
        for (int taken = 13; taken < 40; taken++) {
            due("refused RULE was not counted, token " + taken, z.token(STAR, 0), 1);
        }
        due("the 41st", z.token(STAR, 0), -1);
    }

    private static void promise2Building() {
        for (int arg : new int[] {0, 1, 2, 3, 4, 7, -1, -4, LEAST, MOST}) {
            LexTables x = new LexTables();
            x.token(LETTER, arg);
            x.token(RULE, 3);
            x.type(arg & 3);
            due("LETTER " + arg, x.matches(0), 1);
            due("LETTER " + arg + " only", x.count(0, 1), 1);
            for (int n = 0; n <= 4; n += n == 0 ? 2 : 1) {
                due("LETTER has no row of " + n, x.count(0, n), 0);
            }
        }
        for (int letter = 0; letter < 4; letter++) {
            due("ANY has " + letter, matches(".", "" + letter), 1);
        }
        due("ANY has no empty row", matches(".", ""), 0);
        due("ANY has no row of two", matches(".", "00"), 0);
        due("EMPTY has the empty row", matches("e", ""), 1);
        due("EMPTY has no letter", matches("e", "0"), 0);
        due("THEN: the lower one first", matches("01,", "01"), 1);
        due("THEN: not the upper one first", matches("01,", "10"), 0);
        due("THEN: not one alone", matches("01,", "0"), 0);
        due("THEN with EMPTY first", matches("e1,", "1"), 1);
        due("THEN with EMPTY last", matches("1e,", "1"), 1);
        due("THEN finds the right split", matches("0*00,,", "0000"), 1);
        due("OR has the lower", matches("01|", "0"), 1);
        due("OR has the upper", matches("01|", "1"), 1);
        due("OR has no other", matches("01|", "2"), 0);
        due("OR has not both", matches("01|", "01"), 0);
        due("OR with EMPTY", matches("e1|", ""), 1);
        due("one expression used by both sides' shapes", matches("01,2,01,3,|", "013"), 1);
    }

    private static void promise2Repetitions() {
        String thirty = "000000000000000000000000000000";
        for (String sign : new String[] {"*", "+"}) {
            due(sign + " of none", matches("0" + sign, ""), sign.equals("*") ? 1 : 0);
            due(sign + " of one", matches("0" + sign, "0"), 1);
            due(sign + " of thirty", matches("0" + sign, thirty), 1);
            due(sign + " of another letter", matches("0" + sign, "001"), 0);
            due(sign + " of two letters", matches("01," + sign, "010101"), 1);
            due(sign + " of two letters and a half", matches("01," + sign, "01010"), 0);
            due(sign + " of different rows", matches("01,2|" + sign, "0122012"), 1);
            due(sign + " of EMPTY", matches("e" + sign, ""), 1);
            due(sign + " of EMPTY has no letter", matches("e" + sign, "0"), 0);
            due(sign + " of what has an empty row too", matches("0e|" + sign, "000"), 1);
            due(sign + " of that has the empty row", matches("0e|" + sign, ""), 1);
            due(sign + " of STAR", matches("0*" + sign, "000"), 1);
            due(sign + " of PLUS of two or three", matches("00,000,,|+" + sign, "0"), 0);
            due(sign + " of two or three", matches("00,00,0,|" + sign, "0000000"), 1);
            due(sign + " before more", matches("0" + sign + "01,,", "0001"), 1);
        }
        due("PLUS of PLUS has no empty row", matches("0++", ""), 0);
        due("STAR of PLUS has it", matches("0+*", ""), 1);
        due("PLUS of STAR has it", matches("0*+", ""), 1);
    }

    private static void promise3Clear() {
        LexTables x = made("0;1;2", "010");
        x.clear();
        due("clear: no rule", x.matches(0), -1);
        due("clear: no rule to count", x.count(1, 1), -1);
        due("clear: no expression", x.token(STAR, 0), -1);
        dueCut(x, "1:-1 1:-1 1:-1");
        due("clear: the text stays", x.type(3), 4);
        due("clear: rules begin at 0 again", build(x, "01,;"), 0);
        due("clear: rule 0", x.sortOf(0, 2), 0);
        due("clear: rule 1 is gone", x.matches(1), -1);
        dueCut(x, "2:0 1:-1 1:-1");

        LexTables y = new LexTables();
        for (int round = 0; round < 3; round++) {
            for (int i = 1; i <= 40; i++) {
                due("clear: 40 tokens again", y.token(ANY, 0), i);
            }
            due("clear: and no more", y.token(ANY, 0), -1);
            y.clear();
        }
        for (int round = 0; round < 2; round++) {
            due("clear: five rules again", build(y, "0;1;2;3;.;"), 0);
            due("clear: and no more rules", build(y, "0;"), -1);
            y.clear();
        }
    }

    private static void promise4Type() {
        LexTables x = made(".*;", "");
        for (int i = 1; i <= 30; i++) {
            due("letter " + i, x.type(i), i);
        }
        due("letter 31", x.type(0), -1);
        due("letter 31 again", x.type(3), -1);
        due("30 letters stay", x.length(0), 30);
        due("up to the last place", x.sortOf(0, 30), 0);
        due("and no further", x.sortOf(0, 31), -2);

        for (int letter : new int[] {0, 1, 2, 3, 4, 6, -1, -2, LEAST, MOST}) {
            LexTables y = made("0;1;2;3;", "");
            due("type " + letter, y.type(letter), 1);
            due("type " + letter + " is letter & 3", y.sort(0), letter & 3);
        }
        LexTables z = made("01,;", "");
        z.type(0);
        z.type(1);
        due("a letter goes to the end", z.matches(0), 1);
    }

    private static void promise5Erase() {
        LexTables x = made("0;e;1", "000");
        x.erase();
        due("erase: no words", x.words(), 0);
        due("erase: no word 0", x.sort(0), -2);
        due("erase: the empty text", x.matches(1), 1);
        due("erase: no letters", x.sortOf(0, 1), -2);
        due("erase: the rules stay", x.matches(0), 0);
        due("erase: the stack stays", x.token(RULE, 0), 0);
        due("erase: first letter again", x.type(1), 1);
        due("erase: only the new letter", x.matches(2), 1);
        x.erase();
        x.erase();
        for (int i = 1; i <= 30; i++) {
            due("erase: 30 letters again", x.type(0), i);
        }
        due("erase: and no more", x.type(0), -1);
    }

    private static void promise6Words() {
        due("no text", made(".;", "").words(), 0);
        due("each letter", made(".;", "0123").words(), 4);
        due("no rule", made("", "0123").words(), 4);
        due("one word", made(".*;", "0123").words(), 1);
        due("empty rows make no word", made("e;0*;", "1101").words(), 4);
        due("thirty words", made("", "012301230123012301230123012301").words(), 30);
        due("an unfinished expression cuts nothing", made(".*", "012").words(), 3);
        LexTables x = made("00,;", "000");
        due("three letters", x.words(), 2);
        x.type(0);
        due("four letters", x.words(), 2);
        build(x, "0*;");
        due("a new rule", x.words(), 1);
    }

    private static void promise7Sort() {
        dueCut(made("0;00,;0+;", "0001"), "3:2 1:-1");
        dueCut(made("0;00,;0+;", "001"), "2:1 1:-1");
        dueCut(made("0;00,;0+;", "01"), "1:0 1:-1");
        dueCut(made("0+;00,;0;", "00"), "2:0");
        dueCut(made("0;01,0,1,1,;1;", "010101011"), "1:0 1:2 1:0 1:2 5:1");
        dueCut(made("0;01,2,3,;", "012012301"), "1:0 1:-1 1:-1 4:1 1:0 1:-1");
        dueCut(made("e;0*;", "0010"), "2:1 1:-1 1:1");
        dueCut(made(".;", "31"), "1:0 1:0");
        dueCut(made("3;2;1;0;.;", "0123"), "1:3 1:2 1:1 1:0");
        dueCut(made("33,;22,;11,;00,;..,;", "0123312"), "2:4 2:4 2:4 1:-1");
        LexTables x = made("0;", "00");
        for (int word : new int[] {LEAST, -2, -1, 2, 3, 29, 30, 31, MOST}) {
            due("sort(" + word + ")", x.sort(word), -2);
        }
        due("sort of the first", x.sort(0), 0);
        due("sort of the last", x.sort(1), 0);
    }

    private static void promise8Length() {
        LexTables x = made("0+;12,;", "0001203");
        due("three letters", x.length(0), 3);
        due("two letters", x.length(1), 2);
        due("one letter of a rule", x.length(2), 1);
        due("one letter of none", x.length(3), 1);
        for (int word : new int[] {LEAST, -2, -1, 4, 5, 29, 30, 31, MOST}) {
            due("length(" + word + ")", x.length(word), 0);
        }
        due("thirty", made(".+;", "012301230123012301230123012301").length(0), 30);
        write(x, "0");
        due("no word left from before", x.length(1), 0);
    }

    private static void promise9Matches() {
        LexTables x = made("01,;0+;.*;", "01");
        due("the whole text", x.matches(0), 1);
        due("a beginning is not enough", x.matches(1), 0);
        due("every text", x.matches(2), 1);
        for (int rule : new int[] {LEAST, -1, 3, 4, 5, MOST}) {
            due("matches(" + rule + ")", x.matches(rule), -1);
        }
        write(x, "101");
        due("an end is not enough", x.matches(0), 0);
        write(x, "");
        due("empty text, no empty row", x.matches(1), 0);
        due("empty text, empty row", x.matches(2), 1);
        write(x, "012301230123012301230123012301");
        due("thirty letters", x.matches(2), 1);
        LexTables y = made("0;1;2;3;.;", "3");
        for (int rule = 0; rule < 5; rule++) {
            due("one of five rules, " + rule, y.matches(rule), rule >= 3 ? 1 : 0);
        }
    }

    private static void promise10Count() {
        LexTables x = made(".*;0;e;01|*;00,1|+;", "3");
        int[][] want = {{1, 4, 16, 64, 256}, {0, 1, 0, 0, 0}, {1, 0, 0, 0, 0}, {1, 2, 4, 8, 16}, {0, 1, 2, 3, 5}};
        for (int rule = 0; rule < 5; rule++) {
            for (int n = 0; n <= 4; n++) {
                due("count(" + rule + ", " + n + ")", x.count(rule, n), want[rule][n]);
            }
        }
        for (int n : new int[] {LEAST, -1, 5, 6, 16, 32, MOST}) {
            due("count(0, " + n + ")", x.count(0, n), -1);
        }
        for (int rule : new int[] {LEAST, -1, 5, 6, MOST}) {
            due("count(" + rule + ", 1)", x.count(rule, 1), -1);
        }
        due("a row found in two ways is one row", made("00|0.||;", "").count(0, 1), 4);
        due("and so in repetitions", made("0*0*,;", "").count(0, 4), 1);
        due("the last letter counts as others", made("3...,,,;", "").count(0, 4), 64);
        LexTables y = made("0;1;2;01,2|*;", "201210");
        due("count beside a text", y.count(3, 4), 5);
        dueCut(y, "4:3 1:1 1:0");
        due("the text stays", y.type(1), 7);
    }

    private static void promise11SortOf() {
        LexTables x = made("01,;0;.+;", "0120");
        due("two letters", x.sortOf(0, 2), 0);
        due("one letter", x.sortOf(0, 1), 1);
        due("the last letter", x.sortOf(3, 4), 1);
        due("the least rule", x.sortOf(1, 2), 2);
        due("the whole text", x.sortOf(0, 4), 2);
        due("the empty word at the start", x.sortOf(0, 0), -1);
        due("the empty word inside", x.sortOf(2, 2), -1);
        due("the empty word at the end", x.sortOf(4, 4), -1);
        due("from after to", x.sortOf(2, 1), -2);
        due("to after the text", x.sortOf(0, 5), -2);
        due("both after the text", x.sortOf(5, 5), -2);
        due("from before the text", x.sortOf(-1, 2), -2);
        due("both before the text", x.sortOf(-1, -1), -2);
        due("the greatest numbers", x.sortOf(MOST, MOST), -2);
        due("the least numbers", x.sortOf(LEAST, LEAST), -2);
        due("from the least to the greatest", x.sortOf(LEAST, MOST), -2);
        due("from the greatest to the least", x.sortOf(MOST, LEAST), -2);
        due("an empty row", build(x, "0*;"), 0);
        due("the empty word now", x.sortOf(4, 4), 3);
        due("a word that the cut does not make", x.sortOf(1, 3), 2);
        due("no rule has it", made("0;", "0120").sortOf(1, 3), -1);
    }

    private static void objectsAreApart() {
        LexTables x = made("0;", "0");
        LexTables y = made("1;", "11");
        due("x has its own rule", x.matches(0), 1);
        due("y has its own text", y.words(), 2);
        y.clear();
        y.erase();
        due("x keeps its rule", x.matches(0), 1);
        due("x keeps its text", x.words(), 1);
    }
}
