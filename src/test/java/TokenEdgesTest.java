import java.util.function.Consumer;

/** Each sentence of the promises 1 to 3, and of BUILDING, that names a boundary case. */
public final class TokenEdgesTest {
    private static final int[] CODES_TOO_SMALL = {Runs.LEAST, Runs.LEAST + 7, -256, -9, -8, -7, -5, -2, -1};
    private static final int[] CODES_TOO_LARGE = {8, 9, 10, 13, 15, 16, 256, 263, 65536, Runs.MOST - 7, Runs.MOST};

    /** Tokens and text: from nothing at all to everything full. */
    private static final String[][] SITUATIONS = {
        {"", ""},
        {"2", "2"},
        {"01", "10"},
        {"01,;2*", "0101"},
        {Runs.FIVE_RULES, "0123"},
        {Runs.FIVE_RULES + "01", Runs.THIRTY},
        {Runs.FORTY, Runs.THIRTY},
    };

    private static final Checks CHECKS = new Checks();

    public static void main(String[] args) {
        newObject();
        letterWrapsAround();
        answers();
        refusedCodes();
        refusedForTheStack();
        refusedForForty();
        refusedForFiveRules();
        rowsOfBuilding();
        clear();
        CHECKS.finish("TokenEdgesTest");
    }

    /** The token is refused after the run, and each later call answers as if it had not been made. */
    private static void dueRefused(String tokens, String letters, int code) {
        String what = "token(" + code + ", 1) after '" + tokens + "'";
        CHECKS.due(what, Runs.made(tokens, letters).token(code, 1), -1);
        Consumer<LexTables> refused = Runs.run(tokens, letters).andThen(x -> x.token(code, 1));
        CHECKS.due("the state after " + what, State.after(refused), State.after(Runs.run(tokens, letters)));
    }

    private static void newObject() {
        CHECKS.sentence("Promise 1: No rule", () -> {
            for (int rule = -1; rule <= 5; rule++) {
                CHECKS.due("matches(" + rule + ")", new LexTables().matches(rule), -1);
                CHECKS.due("count(" + rule + ", 0)", new LexTables().count(rule, 0), -1);
            }
            CHECKS.due("sortOf(0, 0)", new LexTables().sortOf(0, 0), -1);
            LexTables x = Runs.made("3;", "3");
            CHECKS.due("the first rule made is rule 0", x.matches(0), 1);
            CHECKS.due("and the only one", x.matches(1), -1);
            CHECKS.due("there is room for five", Runs.made("0;1;2;3;.;", "").count(4, 1), 4);
        });
        CHECKS.sentence("Promise 1: empty stack", () -> {
            for (int code = Runs.THEN; code <= Runs.RULE; code++) {
                CHECKS.due("first token " + code, new LexTables().token(code, 0), -1);
            }
            for (int code = Runs.LETTER; code <= Runs.EMPTY; code++) {
                CHECKS.due("first token " + code, new LexTables().token(code, 0), 1);
            }
            CHECKS.due("THEN on the first expression", Runs.build(new LexTables(), "0,"), -1);
            CHECKS.due("OR on the first expression", Runs.build(new LexTables(), "0|"), -1);
            CHECKS.due("there is room for 40 tokens", Runs.build(new LexTables(), "0".repeat(40)), 40);
        });
        CHECKS.sentence("Promise 1: empty text", () -> {
            CHECKS.due("words", new LexTables().words(), 0);
            CHECKS.due("sort(0)", new LexTables().sort(0), -2);
            CHECKS.due("length(0)", new LexTables().length(0), 0);
            CHECKS.due("sortOf(0, 1)", new LexTables().sortOf(0, 1), -2);
            CHECKS.due("the empty text is a row of EMPTY", Runs.made("e;", "").matches(0), 1);
            CHECKS.due("first letter", new LexTables().type(2), 1);
            CHECKS.due("there is room for 30 letters", Runs.typeAll(new LexTables(), Runs.THIRTY), 30);
        });
    }

    private static void letterWrapsAround() {
        CHECKS.sentence("BUILDING, LETTER l: the single letter l & 3", () -> {
            int[][] pairs = {
                {0, 0}, {3, 3}, {4, 0}, {5, 1}, {6, 2}, {7, 3}, {8, 0}, {-1, 3}, {-2, 2}, {-3, 1}, {-4, 0},
                {-5, 3}, {255, 3}, {256, 0},
                {Runs.MOST, 3}, {Runs.MOST - 1, 2}, {Runs.LEAST, 0}, {Runs.LEAST + 1, 1},
            };
            for (int[] pair : pairs) {
                LexTables x = new LexTables();
                CHECKS.due("LETTER " + pair[0], x.token(Runs.LETTER, pair[0]), 1);
                x.token(Runs.RULE, 0);
                for (int letter = 0; letter < 4; letter++) {
                    x.erase();
                    x.type(letter);
                    CHECKS.due("LETTER " + pair[0] + " has " + letter, x.matches(0), letter == pair[1] ? 1 : 0);
                }
            }
        });
        CHECKS.sentence("Promise 2: arg is looked at for LETTER only", () -> {
            for (int arg : new int[] {Runs.LEAST, -1, 1, 2, 3, 4, 7, 8, 40, Runs.MOST}) {
                LexTables x = new LexTables();
                String what = " with the arg " + arg;
                CHECKS.due("ANY" + what, x.token(Runs.ANY, arg), 1);
                CHECKS.due("EMPTY" + what, x.token(Runs.EMPTY, arg), 2);
                CHECKS.due("OR" + what, x.token(Runs.OR, arg), 1);
                CHECKS.due("PLUS" + what, x.token(Runs.PLUS, arg), 1);
                CHECKS.due("RULE" + what, x.token(Runs.RULE, arg), 0);
                CHECKS.due("their rows" + what, Runs.counts(x, 0), "1 4 16 64 256");
                Runs.build(x, "01");
                CHECKS.due("THEN" + what, x.token(Runs.THEN, arg), 1);
                CHECKS.due("STAR" + what, x.token(Runs.STAR, arg), 1);
                CHECKS.due("another RULE" + what, x.token(Runs.RULE, arg), 0);
                CHECKS.due("their rows" + what, Runs.counts(x, 1), "1 0 1 0 1");
                CHECKS.due("a code too large" + what, x.token(8, arg), -1);
                CHECKS.due("a stack too small" + what, x.token(Runs.STAR, arg), -1);
            }
        });
    }

    private static void answers() {
        CHECKS.sentence("Promise 2: Answers the number of expressions on the stack then", () -> {
            LexTables x = new LexTables();
            for (int i = 1; i <= 20; i++) {
                CHECKS.due("expression " + i, x.token(i % 3, i), i);
            }
            CHECKS.due("STAR leaves as many", x.token(Runs.STAR, 0), 20);
            CHECKS.due("PLUS leaves as many", x.token(Runs.PLUS, 0), 20);
            CHECKS.due("RULE leaves one less", x.token(Runs.RULE, 0), 19);
            for (int i = 18; i >= 3; i--) {
                CHECKS.due("THEN or OR leaves one less", x.token(i % 2 == 0 ? Runs.THEN : Runs.OR, 0), i);
            }
            CHECKS.due("token 40", x.token(Runs.RULE, 0), 2);

            LexTables y = new LexTables();
            CHECKS.due("two", Runs.build(y, "01"), 2);
            CHECKS.due("THEN of the only two", y.token(Runs.THEN, 0), 1);
            CHECKS.due("STAR of the only one", y.token(Runs.STAR, 0), 1);
            CHECKS.due("RULE of the only one leaves none", y.token(Runs.RULE, 0), 0);
            CHECKS.due("and the next begins at 1", y.token(Runs.EMPTY, 0), 1);
        });
    }

    private static void refusedCodes() {
        CHECKS.sentence("Promise 2: -1, and changes nothing, if code is not from 0 to 7: too small", () -> {
            for (String[] situation : SITUATIONS) {
                for (int code : CODES_TOO_SMALL) {
                    dueRefused(situation[0], situation[1], code);
                }
            }
        });
        CHECKS.sentence("Promise 2: -1, and changes nothing, if code is not from 0 to 7: too large", () -> {
            for (String[] situation : SITUATIONS) {
                for (int code : CODES_TOO_LARGE) {
                    dueRefused(situation[0], situation[1], code);
                }
            }
        });
        CHECKS.sentence("Promise 2: code from 0 to 7: the least and the greatest are taken", () -> {
            LexTables x = new LexTables();
            CHECKS.due("code 0", x.token(0, 2), 1);
            CHECKS.due("code 7", x.token(7, 0), 0);
            CHECKS.due("what they made", Runs.counts(x, 0), "0 1 0 0 0");
        });
    }

    private static void refusedForTheStack() {
        CHECKS.sentence("Promise 2: -1, and changes nothing, if the stack has too few: none", () -> {
            for (String tokens : new String[] {"", "0;", "01,;e;", "0;1;2;3;"}) {
                for (int code = Runs.THEN; code <= Runs.RULE; code++) {
                    dueRefused(tokens, "01", code);
                }
            }
            LexTables x = new LexTables();
            x.token(Runs.THEN, 0);
            x.token(Runs.OR, 0);
            CHECKS.due("after refused ones the first is still the first", x.token(Runs.LETTER, 1), 1);
        });
        CHECKS.sentence("Promise 2: -1, and changes nothing, if the stack has too few: one of two", () -> {
            for (String tokens : new String[] {"2", "01,", "e*", "0;1", "0;1;2;3;."}) {
                dueRefused(tokens, "01", Runs.THEN);
                dueRefused(tokens, "01", Runs.OR);
            }
            LexTables x = Runs.made("2", "2");
            x.token(Runs.THEN, 0);
            x.token(Runs.OR, 0);
            CHECKS.due("the one is still there", x.token(Runs.RULE, 0), 0);
            CHECKS.due("and is what it was", x.matches(0), 1);
            CHECKS.due("and nothing else is", Runs.counts(x, 0), "0 1 0 0 0");
        });
        CHECKS.sentence("Promise 2: the stack has too few: just enough are taken", () -> {
            CHECKS.due("THEN of two", Runs.build(new LexTables(), "01,"), 1);
            CHECKS.due("OR of two", Runs.build(new LexTables(), "01|"), 1);
            CHECKS.due("STAR of one", Runs.build(new LexTables(), "0*"), 1);
            CHECKS.due("PLUS of one", Runs.build(new LexTables(), "0+"), 1);
            CHECKS.due("RULE of one", Runs.build(new LexTables(), "0;"), 0);
        });
    }

    private static void refusedForForty() {
        CHECKS.sentence("Promise 2: -1, and changes nothing, if 40 tokens have been taken", () -> {
            String onTheStack = "0".repeat(40);
            String halfAndHalf = "0;1;" + "2".repeat(36);
            String joined = "0" + "*".repeat(37) + ";1";
            for (String tokens : new String[] {Runs.FORTY, onTheStack, halfAndHalf, joined}) {
                CHECKS.due("tokens", tokens.length(), 40);
                for (int code = Runs.LETTER; code <= Runs.RULE; code++) {
                    dueRefused(tokens, "0123", code);
                }
            }
        });
        CHECKS.sentence("Promise 2: 40 tokens: the 40th is taken, whatever it is", () -> {
            CHECKS.due("LETTER", Runs.build(new LexTables(), "0".repeat(39) + "1"), 40);
            CHECKS.due("ANY", Runs.build(new LexTables(), "0".repeat(39) + "."), 40);
            CHECKS.due("EMPTY", Runs.build(new LexTables(), "0".repeat(39) + "e"), 40);
            CHECKS.due("THEN", Runs.build(new LexTables(), "0".repeat(39) + ","), 38);
            CHECKS.due("OR", Runs.build(new LexTables(), "0".repeat(39) + "|"), 38);
            CHECKS.due("STAR", Runs.build(new LexTables(), "0".repeat(39) + "*"), 39);
            CHECKS.due("PLUS", Runs.build(new LexTables(), "0".repeat(39) + "+"), 39);
            LexTables x = Runs.made("0".repeat(39) + ";", "0");
            CHECKS.due("RULE", x.matches(0), 1);
            LexTables y = Runs.made(Runs.FORTY, "01230123012301230123");
            CHECKS.due("a rule of all 40", y.matches(0), 1);
            y.type(0);
            CHECKS.due("and of no other text", y.matches(0), 0);
        });
        CHECKS.sentence("BUILDING: at most 40 in all rules together; RULE is a token too", () -> {
            LexTables x = new LexTables();
            for (int rule = 0; rule < 4; rule++) {
                CHECKS.due("eight tokens of rule " + rule, Runs.build(x, "01,*2|3,"), 1);
                CHECKS.due("the ninth makes it", x.token(Runs.RULE, 0), 0);
            }
            CHECKS.due("36 are taken, the 39th", Runs.build(x, "01,"), 1);
            CHECKS.due("the 40th", x.token(Runs.RULE, 0), 0);
            CHECKS.due("the 41st", x.token(Runs.LETTER, 0), -1);
            CHECKS.due("the first rule", Runs.counts(x, 0), "0 1 1 1 0");
            CHECKS.due("the last rule", Runs.counts(x, 4), "0 0 1 0 0");
        });
        CHECKS.sentence("Promise 2: 40 tokens: those that are refused are not counted", () -> {
            LexTables x = new LexTables();
            for (int i = 1; i <= 40; i++) {
                CHECKS.due("STAR of none", x.token(Runs.STAR, 0), -1);
            }
            for (int i = 1; i <= 40; i++) {
                CHECKS.due("too small", x.token(-1, 0), -1);
                CHECKS.due("too large", x.token(8, 0), -1);
                CHECKS.due("token " + i, x.token(Runs.LETTER, i), i);
            }
            CHECKS.due("the 41st", x.token(Runs.LETTER, 0), -1);

            LexTables y = Runs.made(Runs.FIVE_RULES + "0", "");
            for (int taken = 11; taken < 40; taken++) {
                CHECKS.due("a sixth rule", y.token(Runs.RULE, 0), -1);
                CHECKS.due("THEN of one", y.token(Runs.THEN, 0), -1);
                CHECKS.due("token " + (taken + 1), y.token(Runs.PLUS, 0), 1);
            }
            CHECKS.due("the 41st", y.token(Runs.PLUS, 0), -1);
        });
        CHECKS.sentence("Promise 2: 40 tokens: refused also when other reasons hold too", () -> {
            String tokens = Runs.FIVE_RULES + "0".repeat(30);
            CHECKS.due("RULE with 40 tokens and five rules", Runs.made(tokens, "").token(Runs.RULE, 0), -1);
            CHECKS.due("a wrong code with 40 tokens", Runs.made(tokens, "").token(8, 0), -1);
            CHECKS.due("THEN of none with 40 tokens", Runs.made(Runs.FORTY, "").token(Runs.THEN, 0), -1);
            CHECKS.due("RULE of none with five rules", Runs.made(Runs.FIVE_RULES, "").token(Runs.RULE, 0), -1);
        });
    }

    private static void refusedForFiveRules() {
        CHECKS.sentence("Promise 2: -1, and changes nothing, if code is RULE and there are 5 rules", () -> {
            for (String more : new String[] {"", "0", "01", "e*", "..,"}) {
                dueRefused(Runs.FIVE_RULES + more, "0123", Runs.RULE);
            }
            LexTables x = Runs.made(Runs.FIVE_RULES + "e", "0123");
            CHECKS.due("a sixth", x.token(Runs.RULE, 0), -1);
            CHECKS.due("no rule 5", x.matches(5), -1);
            CHECKS.due("no rule 5 to count", x.count(5, 0), -1);
            CHECKS.due("the first is not replaced", Runs.counts(x, 0), "0 1 0 0 0");
            CHECKS.due("the fifth is not replaced", Runs.counts(x, 4), "0 4 0 0 0");
            CHECKS.due("the cut is as before", Runs.cut(x), "1:0 1:1 1:2 1:3");
            CHECKS.due("its expression stays", x.token(Runs.LETTER, 1), 2);
            CHECKS.due("and can be built on", x.token(Runs.OR, 0), 1);
        });
        CHECKS.sentence("Promise 2: 5 rules: the fifth is taken, and all other codes still are", () -> {
            LexTables x = Runs.made("0;1;2;3;", "2");
            CHECKS.due("four rules", x.matches(4), -1);
            CHECKS.due("a fifth", Runs.build(x, ".;"), 0);
            CHECKS.due("is rule 4", x.matches(4), 1);
            CHECKS.due("LETTER", x.token(Runs.LETTER, 0), 1);
            CHECKS.due("ANY", x.token(Runs.ANY, 0), 2);
            CHECKS.due("EMPTY", x.token(Runs.EMPTY, 0), 3);
            CHECKS.due("THEN", x.token(Runs.THEN, 0), 2);
            CHECKS.due("OR", x.token(Runs.OR, 0), 1);
            CHECKS.due("STAR", x.token(Runs.STAR, 0), 1);
            CHECKS.due("PLUS", x.token(Runs.PLUS, 0), 1);
        });
        CHECKS.sentence("Terms: at most 5 RULES, 0 to 4 in the order in which they are made", () -> {
            LexTables x = Runs.made("e;.;..,;..,.,;..,.,.,;", "");
            CHECKS.due("rule 0", Runs.counts(x, 0), "1 0 0 0 0");
            CHECKS.due("rule 1", Runs.counts(x, 1), "0 4 0 0 0");
            CHECKS.due("rule 2", Runs.counts(x, 2), "0 0 16 0 0");
            CHECKS.due("rule 3", Runs.counts(x, 3), "0 0 0 64 0");
            CHECKS.due("rule 4", Runs.counts(x, 4), "0 0 0 0 256");
            LexTables y = Runs.made("e0;;", "");
            CHECKS.due("the top of the stack is made first", Runs.counts(y, 0), "0 1 0 0 0");
            CHECKS.due("the one below it next", Runs.counts(y, 1), "1 0 0 0 0");
        });
    }

    private static void rowsOfBuilding() {
        CHECKS.sentence("BUILDING, ANY: the four single letters, and no empty row", () -> {
            CHECKS.due("rows of ANY", Runs.counts("."), "0 4 0 0 0");
            for (int letter = 0; letter < 4; letter++) {
                CHECKS.due("ANY has " + letter, Runs.matches(".", "" + letter), 1);
            }
        });
        CHECKS.sentence("BUILDING, EMPTY: the only row is the empty one", () -> {
            CHECKS.due("rows of EMPTY", Runs.counts("e"), "1 0 0 0 0");
            CHECKS.due("the empty text", Runs.matches("e", ""), 1);
            CHECKS.due("one letter", Runs.matches("e", "0"), 0);
            LexTables x = Runs.made("e;", "01");
            for (int place = 0; place <= 2; place++) {
                CHECKS.due("the empty word at " + place, x.sortOf(place, place), 0);
            }
        });
        CHECKS.sentence("BUILDING, THEN: a row of the first or of the second may be empty", () -> {
            CHECKS.due("the first", Runs.counts("e1,"), "0 1 0 0 0");
            CHECKS.due("the second", Runs.counts("1e,"), "0 1 0 0 0");
            CHECKS.due("both", Runs.counts("ee,"), "1 0 0 0 0");
            CHECKS.due("both or neither", Runs.counts("0e|1e|,"), "1 2 1 0 0");
            CHECKS.due("neither can be left out", Runs.counts("01,"), "0 0 1 0 0");
            CHECKS.due("the second from the top first", Runs.matches("01,", "01"), 1);
            CHECKS.due("not the top first", Runs.matches("01,", "10"), 0);
        });
        CHECKS.sentence("BUILDING, OR: those of both, the empty row too, the same row once", () -> {
            CHECKS.due("EMPTY below", Runs.counts("e1|"), "1 1 0 0 0");
            CHECKS.due("EMPTY at the top", Runs.counts("1e|"), "1 1 0 0 0");
            CHECKS.due("the same twice", Runs.counts("11|"), "0 1 0 0 0");
            CHECKS.due("EMPTY twice", Runs.counts("ee|"), "1 0 0 0 0");
        });
        CHECKS.sentence("BUILDING, STAR: any number (0 too)", () -> {
            CHECKS.due("of a letter", Runs.counts("0*"), "1 1 1 1 1");
            CHECKS.due("none", Runs.matches("0*", ""), 1);
            CHECKS.due("one", Runs.matches("0*", "0"), 1);
            CHECKS.due("thirty", Runs.matches("0*", "0".repeat(30)), 1);
            CHECKS.due("thirty and a wrong last", Runs.matches("0*", "0".repeat(29) + "1"), 0);
            CHECKS.due("thirty and a wrong first", Runs.matches("0*", "1" + "0".repeat(29)), 0);
            CHECKS.due("of EMPTY", Runs.counts("e*"), "1 0 0 0 0");
            CHECKS.due("of STAR", Runs.counts("0**"), "1 1 1 1 1");
            CHECKS.due("of rows that may be empty", Runs.counts("0e|1e|,*"), "1 2 4 8 16");
        });
        CHECKS.sentence("BUILDING, PLUS: as STAR, of at least one", () -> {
            CHECKS.due("of a letter", Runs.counts("0+"), "0 1 1 1 1");
            CHECKS.due("none", Runs.matches("0+", ""), 0);
            CHECKS.due("one", Runs.matches("0+", "0"), 1);
            CHECKS.due("thirty", Runs.matches("0+", "0".repeat(30)), 1);
            CHECKS.due("thirty and a wrong last", Runs.matches("0+", "0".repeat(29) + "1"), 0);
            CHECKS.due("thirty and a wrong first", Runs.matches("0+", "1" + "0".repeat(29)), 0);
            CHECKS.due("of EMPTY: one empty row is at least one", Runs.counts("e+"), "1 0 0 0 0");
            CHECKS.due("of PLUS", Runs.counts("0++"), "0 1 1 1 1");
            CHECKS.due("of STAR", Runs.counts("0*+"), "1 1 1 1 1");
            CHECKS.due("of rows that may be empty", Runs.counts("0e|1e|,+"), "1 2 4 8 16");
        });
        CHECKS.sentence("BUILDING, RULE: takes one off, and no more", () -> {
            LexTables x = Runs.made("012;", "2");
            CHECKS.due("the rule is the top one", x.matches(0), 1);
            CHECKS.due("the two below stay", x.token(Runs.THEN, 0), 1);
            CHECKS.due("as a rule", x.token(Runs.RULE, 0), 0);
            Runs.write(x, "01");
            CHECKS.due("they are what they were", x.matches(1), 1);
        });
    }

    private static void clear() {
        CHECKS.sentence("Promise 3: Removes all rules", () -> {
            LexTables x = Runs.made("0;1;2;3;.*;", "0123");
            x.clear();
            for (int rule = 0; rule < 5; rule++) {
                CHECKS.due("matches(" + rule + ")", x.matches(rule), -1);
                CHECKS.due("count(" + rule + ", 1)", x.count(rule, 1), -1);
            }
            CHECKS.due("the cut has no sort left", Runs.cut(x), "1:-1 1:-1 1:-1 1:-1");
            CHECKS.due("no rule has the text", x.sortOf(0, 4), -1);
            CHECKS.due("the next rule", Runs.build(x, "1;"), 0);
            CHECKS.due("is rule 0", x.sortOf(1, 2), 0);
            CHECKS.due("and the only one", x.matches(1), -1);
            CHECKS.due("four more", Runs.build(x, "0;1;2;e;"), 0);
            CHECKS.due("the fifth is rule 4", x.sortOf(0, 0), 4);
            CHECKS.due("and there is no sixth", Runs.build(x, "3;"), -1);
        });
        CHECKS.sentence("Promise 3: Removes all tokens", () -> {
            LexTables x = Runs.made(Runs.FORTY, "");
            CHECKS.due("the 41st", x.token(Runs.ANY, 0), -1);
            x.clear();
            for (int i = 1; i <= 40; i++) {
                CHECKS.due("token " + i + " after clear", x.token(Runs.ANY, 0), i);
            }
            CHECKS.due("the 41st after clear", x.token(Runs.ANY, 0), -1);
            x.clear();
            CHECKS.due("40 once more", Runs.build(x, Runs.FORTY), 0);
            CHECKS.due("the 41st once more", x.token(Runs.ANY, 0), -1);
        });
        CHECKS.sentence("Promise 3: Removes all expressions of the stack", () -> {
            for (String tokens : new String[] {"0", "01", "0".repeat(40), Runs.FIVE_RULES + "e"}) {
                for (int code = Runs.THEN; code <= Runs.RULE; code++) {
                    LexTables x = Runs.made(tokens, "");
                    x.clear();
                    CHECKS.due("code " + code + " after clear", x.token(code, 0), -1);
                    CHECKS.due("the next is the first", x.token(Runs.LETTER, 0), 1);
                }
            }
        });
        CHECKS.sentence("Promise 3: the text stays", () -> {
            for (String letters : new String[] {"", "3", "0123", Runs.THIRTY}) {
                Consumer<LexTables> cleared = Runs.run(Runs.FIVE_RULES + "01", letters).andThen(LexTables::clear);
                CHECKS.due("the state after clear", State.after(cleared), State.after(Runs.run("", letters)));
            }
            LexTables x = Runs.made(Runs.FORTY, Runs.THIRTY);
            x.clear();
            CHECKS.due("a full text stays full", x.type(0), -1);
            CHECKS.due("rules that tell the letters apart", Runs.build(x, "0;1;2;3;"), 0);
            CHECKS.due("thirty words of one letter", x.words(), 30);
            for (int word = 0; word < 30; word++) {
                CHECKS.due("letter " + word, x.sort(word), Runs.THIRTY.charAt(word) - '0');
            }
        });
        CHECKS.sentence("Promise 3: clear where there is nothing to remove", () -> {
            Consumer<LexTables> twice = x -> {
                x.clear();
                x.clear();
            };
            CHECKS.due("a new object", State.after(twice), State.after(x -> { }));
            Consumer<LexTables> cleared = Runs.run("0;1", "01").andThen(twice);
            CHECKS.due("after a clear", State.after(cleared), State.after(Runs.run("", "01")));
        });
    }
}
