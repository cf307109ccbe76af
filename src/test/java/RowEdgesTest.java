import java.util.function.Consumer;

/** Each sentence of the promises 9 to 11 that names a boundary case, and what is said of 512 calls. */
public final class RowEdgesTest {
    private static final int[] NUMBERS_TOO_SMALL = {-1, -2, -5, -8, -32, Runs.LEAST, Runs.LEAST + 1};
    private static final int[] NUMBERS_TOO_LARGE = {5, 6, 8, 16, 31, 32, 33, 64, 256, Runs.MOST - 1, Runs.MOST};

    private static final Checks CHECKS = new Checks();

    public static void main(String[] args) {
        matches();
        count();
        countRefuses();
        sortOf();
        sortOfRefuses();
        questionsChangeNothing();
        CHECKS.finish("RowEdgesTest");
    }

    private static void matches() {
        CHECKS.sentence("Promise 9: 1 if the whole text is a row of the rule, else 0", () -> {
            CHECKS.due("the whole", Runs.matches("01,", "01"), 1);
            CHECKS.due("all but the last letter", Runs.matches("01,", "010"), 0);
            CHECKS.due("all but the first letter", Runs.matches("01,", "001"), 0);
            CHECKS.due("a beginning of a row", Runs.matches("01,", "0"), 0);
            CHECKS.due("a row twice", Runs.matches("01,", "0101"), 0);
        });
        CHECKS.sentence("Promise 9: the whole text: an empty one", () -> {
            CHECKS.due("EMPTY", Runs.matches("e", ""), 1);
            CHECKS.due("STAR", Runs.matches("0*", ""), 1);
            CHECKS.due("PLUS", Runs.matches("0+", ""), 0);
            CHECKS.due("LETTER", Runs.matches("0", ""), 0);
            CHECKS.due("ANY", Runs.matches(".", ""), 0);
        });
        CHECKS.sentence("Promise 9: the whole text: a full one", () -> {
            CHECKS.due("any thirty", Runs.matches(".*", Runs.THIRTY), 1);
            CHECKS.due("a wrong last letter", Runs.matches("0*", "0".repeat(29) + "2"), 0);
            CHECKS.due("a wrong first letter", Runs.matches("0*", "2" + "0".repeat(29)), 0);
            CHECKS.due("the last letter apart", Runs.matches("0*2,", "0".repeat(29) + "2"), 1);
            CHECKS.due("thirty in fifteen parts", Runs.matches("01,*", "01".repeat(15)), 1);
            CHECKS.due("thirty in parts of four", Runs.matches("....,,,*", Runs.THIRTY), 0);
            CHECKS.due("EMPTY", Runs.matches("e", Runs.THIRTY), 0);
        });
        CHECKS.sentence("Promise 9: -1 if there is no such rule: too small", () -> {
            for (int rule : NUMBERS_TOO_SMALL) {
                CHECKS.due("matches(" + rule + ") of no rule", new LexTables().matches(rule), -1);
                CHECKS.due("matches(" + rule + ") of two", Runs.made("e;.*;", "").matches(rule), -1);
                CHECKS.due("matches(" + rule + ") of five", Runs.made("e;e;e;e;e;", "").matches(rule), -1);
            }
        });
        CHECKS.sentence("Promise 9: -1 if there is no such rule: too large", () -> {
            for (int rule : NUMBERS_TOO_LARGE) {
                CHECKS.due("matches(" + rule + ") of no rule", new LexTables().matches(rule), -1);
                CHECKS.due("matches(" + rule + ") of two", Runs.made("e;.*;", "").matches(rule), -1);
                CHECKS.due("matches(" + rule + ") of five", Runs.made("e;e;e;e;e;", "").matches(rule), -1);
            }
            LexTables x = new LexTables();
            for (int made = 0; made < 5; made++) {
                CHECKS.due("not made yet: " + made, x.matches(made), -1);
                Runs.build(x, "e;");
                CHECKS.due("made: " + made, x.matches(made), 1);
            }
            CHECKS.due("an expression of the stack is no rule", Runs.made("e;e", "").matches(1), -1);
        });
        CHECKS.sentence("Promise 9: -1 if there is no such rule: removed by clear", () -> {
            LexTables x = Runs.made("e;e;e;e;e;", "");
            x.clear();
            for (int rule = 0; rule < 5; rule++) {
                CHECKS.due("matches(" + rule + ") after clear", x.matches(rule), -1);
            }
        });
    }

    private static void count() {
        CHECKS.sentence("Promise 10: n from 0 to 4: the least n", () -> {
            CHECKS.due("EMPTY", Runs.made("e;", "").count(0, 0), 1);
            CHECKS.due("ANY", Runs.made(".;", "").count(0, 0), 0);
            CHECKS.due("the empty row is one, in however many ways", Runs.made("e*e|e+|;", "").count(0, 0), 1);
        });
        CHECKS.sentence("Promise 10: n from 0 to 4: the greatest n, and the most rows", () -> {
            CHECKS.due("all rows", Runs.made(".*;", "").count(0, 4), 256);
            CHECKS.due("four letters", Runs.made("....,,,;", "").count(0, 4), 256);
            CHECKS.due("one row", Runs.made("3333,,,;", "").count(0, 4), 1);
            CHECKS.due("a first letter", Runs.made("3...,,,;", "").count(0, 4), 64);
            CHECKS.due("a last letter", Runs.made("...3,,,;", "").count(0, 4), 64);
            CHECKS.due("no row", Runs.made("...,,;", "").count(0, 4), 0);
        });
        CHECKS.sentence("Promise 10: rows of exactly n letters", () -> {
            CHECKS.due("of each length", Runs.counts(".*"), "1 4 16 64 256");
            CHECKS.due("three letters only", Runs.counts("...,,"), "0 0 0 64 0");
            CHECKS.due("more than four letters", Runs.counts("....,,,.,"), "0 0 0 0 0");
            CHECKS.due("each row once", Runs.counts("0*0*,"), "1 1 1 1 1");
        });
        CHECKS.sentence("Promise 10: rows of the rule, whatever the text is", () -> {
            for (String letters : new String[] {"", "3", "0123", Runs.THIRTY}) {
                LexTables x = Runs.made("01|*;", letters);
                CHECKS.due("beside " + letters, Runs.counts(x, 0), "1 2 4 8 16");
            }
        });
    }

    private static void countRefuses() {
        CHECKS.sentence("Promise 10: -1 if n is not from 0 to 4: too small", () -> {
            for (int n : NUMBERS_TOO_SMALL) {
                CHECKS.due("count(0, " + n + ")", Runs.made(".*;", "").count(0, n), -1);
            }
        });
        CHECKS.sentence("Promise 10: -1 if n is not from 0 to 4: too large", () -> {
            for (int n : NUMBERS_TOO_LARGE) {
                CHECKS.due("count(0, " + n + ")", Runs.made(".*;", "").count(0, n), -1);
                CHECKS.due("count(4, " + n + ")", Runs.made("e;e;e;e;.*;", Runs.THIRTY).count(4, n), -1);
            }
        });
        CHECKS.sentence("Promise 10: -1 if there is no such rule: too small", () -> {
            for (int rule : NUMBERS_TOO_SMALL) {
                for (int n = 0; n <= 4; n++) {
                    CHECKS.due("count(" + rule + ", " + n + ") of none", new LexTables().count(rule, n), -1);
                    CHECKS.due("count(" + rule + ", " + n + ") of two", Runs.made("e;.*;", "").count(rule, n), -1);
                }
            }
        });
        CHECKS.sentence("Promise 10: -1 if there is no such rule: too large", () -> {
            for (int rule : NUMBERS_TOO_LARGE) {
                for (int n = 0; n <= 4; n++) {
                    CHECKS.due("count(" + rule + ", " + n + ") of none", new LexTables().count(rule, n), -1);
                    LexTables x = Runs.made(Runs.FIVE_RULES, "");
                    CHECKS.due("count(" + rule + ", " + n + ") of five", x.count(rule, n), -1);
                }
            }
            LexTables x = new LexTables();
            for (int made = 0; made < 5; made++) {
                CHECKS.due("not made yet: " + made, x.count(made, 1), -1);
                Runs.build(x, ".;");
                CHECKS.due("made: " + made, x.count(made, 1), 4);
            }
            CHECKS.due("an expression of the stack is no rule", Runs.made("e;e", "").count(1, 0), -1);
            x.clear();
            for (int rule = 0; rule < 5; rule++) {
                CHECKS.due("removed by clear: " + rule, x.count(rule, 1), -1);
            }
        });
        CHECKS.sentence("Promise 10: -1 if both are wrong", () -> {
            CHECKS.due("both too small", Runs.made(".*;", "").count(-1, -1), -1);
            CHECKS.due("both too large", Runs.made(".*;", "").count(1, 5), -1);
            CHECKS.due("the least", Runs.made(".*;", "").count(Runs.LEAST, Runs.LEAST), -1);
            CHECKS.due("the greatest", Runs.made(".*;", "").count(Runs.MOST, Runs.MOST), -1);
        });
    }

    private static void sortOf() {
        CHECKS.sentence("Promise 11: from the place from up to, not including, the place to", () -> {
            LexTables x = Runs.made("0;1;01,;12,;", "012");
            CHECKS.due("the first letter", x.sortOf(0, 1), 0);
            CHECKS.due("the first two", x.sortOf(0, 2), 2);
            CHECKS.due("the second", x.sortOf(1, 2), 1);
            CHECKS.due("the last two", x.sortOf(1, 3), 3);
        });
        CHECKS.sentence("Promise 11: from = to: the empty word", () -> {
            LexTables x = Runs.made("0;1*;e;", "012");
            LexTables y = Runs.made("0;1+;2;", "012");
            for (int place = 0; place <= 3; place++) {
                CHECKS.due("a rule of the empty row, at " + place, x.sortOf(place, place), 1);
                CHECKS.due("no rule of it, at " + place, y.sortOf(place, place), -1);
            }
            CHECKS.due("an empty text", Runs.made("0;e;", "").sortOf(0, 0), 1);
            CHECKS.due("an empty text and no rule of it", Runs.made("0;", "").sortOf(0, 0), -1);
            CHECKS.due("at the end of a full text", Runs.made("e;", Runs.THIRTY).sortOf(30, 30), 0);
        });
        CHECKS.sentence("Promise 11: to = the number of letters, from = 0: the ends of the text", () -> {
            CHECKS.due("the whole", Runs.made("01,;", "01").sortOf(0, 2), 0);
            CHECKS.due("the last letter", Runs.made("1;", "01").sortOf(1, 2), 0);
            CHECKS.due("the whole of thirty", Runs.made(".*;", Runs.THIRTY).sortOf(0, 30), 0);
            CHECKS.due("the last of thirty", Runs.made("0;1;", Runs.THIRTY).sortOf(29, 30), 1);
            CHECKS.due("the first of thirty", Runs.made("0;1;", Runs.THIRTY).sortOf(0, 1), 0);
        });
        CHECKS.sentence("Promise 11: The least rule", () -> {
            CHECKS.due("of all five", Runs.made("0;0;0;0;0;", "0").sortOf(0, 1), 0);
            CHECKS.due("of the last two", Runs.made("1;2;3;0;.;", "0").sortOf(0, 1), 3);
            CHECKS.due("the last alone", Runs.made("1;1;2;3;0;", "0").sortOf(0, 1), 4);
        });
        CHECKS.sentence("Promise 11: -1 if it is a row of none", () -> {
            CHECKS.due("no rule at all", Runs.made("", "01").sortOf(0, 2), -1);
            CHECKS.due("only a beginning of it is one", Runs.made("0;", "01").sortOf(0, 2), -1);
            CHECKS.due("only the end of it is one", Runs.made("1;", "01").sortOf(0, 2), -1);
            CHECKS.due("only a longer one is one", Runs.made("01,;", "01").sortOf(0, 1), -1);
            CHECKS.due("it is on the stack only", Runs.made("1;0", "01").sortOf(0, 1), -1);
            CHECKS.due("it is not looked for elsewhere", Runs.made("1;", "01").sortOf(0, 1), -1);
        });
    }

    private static void sortOfRefuses() {
        CHECKS.sentence("Promise 11: -2 if not 0 <= from", () -> {
            for (int from : NUMBERS_TOO_SMALL) {
                for (int to : new int[] {0, 1, 2, Runs.LEAST, from, Runs.MOST}) {
                    CHECKS.due("sortOf(" + from + ", " + to + ")", Runs.made(".*;", "01").sortOf(from, to), -2);
                }
            }
        });
        CHECKS.sentence("Promise 11: -2 if not from <= to", () -> {
            for (int from = 1; from <= 30; from++) {
                LexTables x = Runs.made(".*;", Runs.THIRTY);
                CHECKS.due("from just after to", x.sortOf(from, from - 1), -2);
                CHECKS.due("from after to", x.sortOf(from, 0), -2);
                CHECKS.due("to before the text", x.sortOf(from, -1), -2);
                CHECKS.due("to far before the text", x.sortOf(from, Runs.LEAST), -2);
            }
            CHECKS.due("0 and -1", Runs.made(".*;", "01").sortOf(0, -1), -2);
            CHECKS.due("the widest", Runs.made(".*;", "01").sortOf(Runs.MOST, Runs.LEAST), -2);
        });
        CHECKS.sentence("Promise 11: -2 if not to <= the number of letters", () -> {
            for (String letters : new String[] {"", "0", "0123", Runs.THIRTY}) {
                int size = letters.length();
                LexTables x = Runs.made(".*;", letters);
                for (int to : new int[] {size + 1, size + 2, 31, 32, 33, 64, 256, Runs.MOST - 1, Runs.MOST}) {
                    CHECKS.due("sortOf(0, " + to + ") of " + size, x.sortOf(0, to), -2);
                    CHECKS.due("sortOf(end, " + to + ") of " + size, x.sortOf(size, to), -2);
                    CHECKS.due("sortOf(" + to + ", " + to + ") of " + size, x.sortOf(to, to), -2);
                }
            }
            LexTables y = Runs.made(".*;", "0123");
            y.erase();
            CHECKS.due("letters that were erased", y.sortOf(0, 1), -2);
            y.type(0);
            CHECKS.due("one letter again", y.sortOf(0, 1), 0);
            CHECKS.due("and one of those that were erased", y.sortOf(0, 2), -2);
        });
        CHECKS.sentence("Promise 11: -2 also where there is no rule", () -> {
            CHECKS.due("from too small", Runs.made("", "01").sortOf(-1, 1), -2);
            CHECKS.due("to too large", Runs.made("", "01").sortOf(0, 3), -2);
            CHECKS.due("from after to", Runs.made("", "01").sortOf(2, 1), -2);
            CHECKS.due("a new object", new LexTables().sortOf(0, 1), -2);
        });
    }

    private static void questionsChangeNothing() {
        CHECKS.sentence("Promises 6 to 11: a question, refused or not, changes nothing", () -> {
            Consumer<LexTables> questions = x -> {
                x.words();
                for (int number : new int[] {Runs.LEAST, -1, 0, 1, 4, 5, 30, Runs.MOST}) {
                    x.sort(number);
                    x.length(number);
                    x.matches(number);
                    x.count(number, 4);
                    x.count(0, number);
                    x.sortOf(number, 2);
                    x.sortOf(0, number);
                }
            };
            String[][] situations = {
                {"", ""}, {"01", "0"}, {"01,;.*;2", "3201"}, {Runs.FIVE_RULES + "e", Runs.THIRTY},
                {Runs.FORTY, Runs.THIRTY},
            };
            for (String[] situation : situations) {
                Consumer<LexTables> run = Runs.run(situation[0], situation[1]);
                CHECKS.due("the state after all questions", State.after(run.andThen(questions)), State.after(run));
            }
        });
        CHECKS.sentence("An object is used for at most 512 calls: the 512th is still answered", () -> {
            LexTables x = new LexTables();
            for (int round = 0; round < 7; round++) {
                Runs.build(x, "01,*;" + "0".repeat(35));
                Runs.write(x, "01".repeat(15));
                x.clear();
            }
            // 504 calls were made: seven rounds of 40 tokens, an erase, 30 letters and a clear.
            x.erase();
            CHECKS.due("call 506", x.type(0), 1);
            CHECKS.due("call 507", x.type(1), 2);
            CHECKS.due("call 508", x.token(Runs.ANY, 0), 1);
            CHECKS.due("call 509", x.token(Runs.PLUS, 0), 1);
            CHECKS.due("call 510", x.token(Runs.RULE, 0), 0);
            CHECKS.due("call 511", x.matches(0), 1);
            CHECKS.due("call 512", x.length(0), 2);
        });
    }
}
