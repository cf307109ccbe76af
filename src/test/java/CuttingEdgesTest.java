/** Each sentence of the promises 6 to 8, and of CUTTING, that names a boundary case. */
public final class CuttingEdgesTest {
    private static final Checks CHECKS = new Checks();

    public static void main(String[] args) {
        words();
        cutting();
        sort();
        length();
        CHECKS.finish("CuttingEdgesTest");
    }

    private static void words() {
        CHECKS.sentence("Promise 6: How many words: none in an empty text", () -> {
            for (String tokens : new String[] {"", "0", "0;", "e;", ".*;", Runs.FIVE_RULES}) {
                CHECKS.due("words with '" + tokens + "'", Runs.made(tokens, "").words(), 0);
                LexTables x = Runs.made(tokens, "0123");
                x.erase();
                CHECKS.due("words after erase with '" + tokens + "'", x.words(), 0);
            }
        });
        CHECKS.sentence("Promise 6: How many words: the least and the most of a text that is not empty", () -> {
            CHECKS.due("one letter of no rule", Runs.made("", "0").words(), 1);
            CHECKS.due("one letter of a rule", Runs.made("0;", "0").words(), 1);
            CHECKS.due("thirty letters of no rule", Runs.made("", Runs.THIRTY).words(), 30);
            CHECKS.due("thirty words of a rule", Runs.made(".;", Runs.THIRTY).words(), 30);
            CHECKS.due("thirty letters in one word", Runs.made(".+;", Runs.THIRTY).words(), 1);
            CHECKS.due("29 and one", Runs.made("0+;", "0".repeat(29) + "1").words(), 2);
            CHECKS.due("one and 29", Runs.made("0+;", "1" + "0".repeat(29)).words(), 2);
        });
        CHECKS.sentence("Promise 6: it is the text and the rules of now that are cut", () -> {
            LexTables x = Runs.made("00,;", "000");
            CHECKS.due("three letters", x.words(), 2);
            x.type(0);
            CHECKS.due("a fourth letter", x.words(), 2);
            x.type(0);
            CHECKS.due("a fifth letter", x.words(), 3);
            Runs.build(x, "0*;");
            CHECKS.due("a new rule", x.words(), 1);
            x.clear();
            CHECKS.due("no rule", x.words(), 5);
            x.erase();
            CHECKS.due("no text", x.words(), 0);
        });
    }

    private static void cutting() {
        CHECKS.sentence("CUTTING: the longest beginning of the rest", () -> {
            CHECKS.due("of three that fit", Runs.cut("0;00,;00,0,;", "000"), "3:2");
            CHECKS.due("though a lesser rule has a shorter one", Runs.cut("0;01,;", "01"), "2:1");
            CHECKS.due("not the longest at the end", Runs.cut("01,;12,3,;", "0123"), "2:0 1:-1 1:-1");
            CHECKS.due("of one rule", Runs.cut("00,00,0,|;", "00000"), "3:0 2:0");
            CHECKS.due("with a gap between the lengths", Runs.cut("0;01,0,1,;", "0101010"), "4:1 1:0 1:-1 1:0");
        });
        CHECKS.sentence("CUTTING: the rest of the text: a word can't go past its end", () -> {
            CHECKS.due("one letter short of a row", Runs.cut("01,2,;", "01"), "1:-1 1:-1");
            CHECKS.due("just a row", Runs.cut("01,2,;", "012"), "3:0");
            CHECKS.due("a row and the beginning of one", Runs.cut("01,2,;", "01201"), "3:0 1:-1 1:-1");
            String atLeast18 = "0*" + "0,".repeat(18);
            CHECKS.due("rows of 18 and more in 17", Runs.made(atLeast18 + ";", "0".repeat(17)).words(), 17);
            CHECKS.due("rows of 18 and more in 18", Runs.made(atLeast18 + ";", "0".repeat(18)).words(), 1);
        });
        CHECKS.sentence("CUTTING: the rest of the text: letters that were erased are not part of it", () -> {
            LexTables x = Runs.made("01,2,;0;", "012");
            x.erase();
            x.type(0);
            CHECKS.due("a shorter text", Runs.cut(x), "1:1");
        });
        CHECKS.sentence("CUTTING: of at least one letter: an empty row makes no word", () -> {
            CHECKS.due("EMPTY alone", Runs.cut("e;", "01"), "1:-1 1:-1");
            CHECKS.due("STAR of another letter", Runs.cut("1*;", "00"), "1:-1 1:-1");
            CHECKS.due("a lesser rule of the empty row only", Runs.cut("e;0;", "00"), "1:1 1:1");
            CHECKS.due("after a word", Runs.cut("0*;", "0010"), "2:0 1:-1 1:0");
            CHECKS.due("five rules of it", Runs.cut("e;e;e;e;e;", "0"), "1:-1");
            CHECKS.due("thirty letters", Runs.made("e*;", Runs.THIRTY).words(), 30);
        });
        CHECKS.sentence("CUTTING: that is a row of some rule: no expression of the stack", () -> {
            CHECKS.due("only on the stack", Runs.cut(".*", "012"), "1:-1 1:-1 1:-1");
            CHECKS.due("on the stack beside a rule", Runs.cut("0;.*", "012"), "1:0 1:-1 1:-1");
            CHECKS.due("the last of five rules", Runs.cut("0;0;0;0;12,;", "012"), "1:0 2:4");
        });
        CHECKS.sentence("CUTTING: its SORT is the least rule that it is a row of", () -> {
            CHECKS.due("all five", Runs.cut("0;0;0;0;0;", "0"), "1:0");
            CHECKS.due("the last two", Runs.cut("1;2;3;0;.;", "0"), "1:3");
            CHECKS.due("the last alone", Runs.cut("1;1;2;3;0;", "0"), "1:4");
            CHECKS.due("not of a shorter word", Runs.cut("0;00,;0+;", "00"), "2:1");
            CHECKS.due("the first of two long ones", Runs.cut("0+;00,;", "00"), "2:0");
        });
        CHECKS.sentence("CUTTING: If there is none, the single next letter, with the sort -1", () -> {
            CHECKS.due("no rule at all", Runs.cut("", "0123"), "1:-1 1:-1 1:-1 1:-1");
            CHECKS.due("at the start", Runs.cut("0+;", "1100"), "1:-1 1:-1 2:0");
            CHECKS.due("at the end", Runs.cut("0+;", "0011"), "2:0 1:-1 1:-1");
            CHECKS.due("between", Runs.cut("0+;", "00100"), "2:0 1:-1 2:0");
            CHECKS.due("the rest after it is cut anew", Runs.cut("01,;12,;", "0012"), "1:-1 2:0 1:-1");
        });
    }

    private static void sort() {
        CHECKS.sentence("Promise 7: the word with the number (from 0): the first and the last", () -> {
            LexTables x = Runs.made("0+;12,;", "0012");
            CHECKS.due("the first", x.sort(0), 0);
            CHECKS.due("the last", x.sort(1), 1);
            LexTables y = Runs.made("0;1;", Runs.THIRTY);
            CHECKS.due("the first of thirty", y.sort(0), 0);
            CHECKS.due("the last of thirty", y.sort(29), 1);
            CHECKS.due("the last but one", y.sort(28), 0);
            CHECKS.due("the greatest sort", Runs.made("1;1;1;1;0;", "0").sort(0), 4);
        });
        CHECKS.sentence("Promise 7: -2 if there is none: too small", () -> {
            for (int word : new int[] {-1, -2, -3, -30, -32, Runs.LEAST, Runs.LEAST + 1}) {
                CHECKS.due("sort(" + word + ") of no word", new LexTables().sort(word), -2);
                CHECKS.due("sort(" + word + ") of two words", Runs.made("0;", "00").sort(word), -2);
                CHECKS.due("sort(" + word + ") of thirty words", Runs.made("0;", Runs.THIRTY).sort(word), -2);
            }
        });
        CHECKS.sentence("Promise 7: -2 if there is none: too large", () -> {
            for (int word : new int[] {30, 31, 32, 40, 256, Runs.MOST - 1, Runs.MOST}) {
                CHECKS.due("sort(" + word + ") of no word", new LexTables().sort(word), -2);
                CHECKS.due("sort(" + word + ") of two words", Runs.made("0;", "00").sort(word), -2);
                CHECKS.due("sort(" + word + ") of thirty words", Runs.made("0;", Runs.THIRTY).sort(word), -2);
            }
            CHECKS.due("the number of words", Runs.made("0;", "00").sort(2), -2);
            CHECKS.due("less than the number of letters", Runs.made("0+;", "000").sort(1), -2);
            CHECKS.due("one word of thirty letters", Runs.made(".*;", Runs.THIRTY).sort(1), -2);
        });
        CHECKS.sentence("Promise 7: -2 if there is none: an empty text", () -> {
            CHECKS.due("a new object", new LexTables().sort(0), -2);
            CHECKS.due("with a rule of the empty row", Runs.made("e;", "").sort(0), -2);
            LexTables x = Runs.made("0;", "000");
            CHECKS.due("before erase", x.sort(2), 0);
            x.erase();
            CHECKS.due("after erase", x.sort(0), -2);
            x.type(0);
            CHECKS.due("no word left from before", x.sort(1), -2);
            CHECKS.due("the new word", x.sort(0), 0);
        });
        CHECKS.sentence("Promise 7: a word of no rule has the sort -1, not -2", () -> {
            CHECKS.due("no rule at all", Runs.made("", "0").sort(0), -1);
            CHECKS.due("no rule for it", Runs.made("0;", "01").sort(1), -1);
            CHECKS.due("and the one after it", Runs.made("0;", "01").sort(2), -2);
        });
    }

    private static void length() {
        CHECKS.sentence("Promise 8: the word with the number: the first and the last", () -> {
            LexTables x = Runs.made("0+;12,;", "000123");
            CHECKS.due("the first", x.length(0), 3);
            CHECKS.due("the second", x.length(1), 2);
            CHECKS.due("the last", x.length(2), 1);
            CHECKS.due("the last of thirty", Runs.made("", Runs.THIRTY).length(29), 1);
            CHECKS.due("the greatest length", Runs.made(".*;", Runs.THIRTY).length(0), 30);
            CHECKS.due("the least length", Runs.made(".*;", "0").length(0), 1);
        });
        CHECKS.sentence("Promise 8: 0 if there is none: too small", () -> {
            for (int word : new int[] {-1, -2, -3, -30, -32, Runs.LEAST, Runs.LEAST + 1}) {
                CHECKS.due("length(" + word + ") of no word", new LexTables().length(word), 0);
                CHECKS.due("length(" + word + ") of two words", Runs.made("0;", "00").length(word), 0);
                CHECKS.due("length(" + word + ") of thirty words", Runs.made("", Runs.THIRTY).length(word), 0);
            }
        });
        CHECKS.sentence("Promise 8: 0 if there is none: too large", () -> {
            for (int word : new int[] {30, 31, 32, 40, 256, Runs.MOST - 1, Runs.MOST}) {
                CHECKS.due("length(" + word + ") of no word", new LexTables().length(word), 0);
                CHECKS.due("length(" + word + ") of two words", Runs.made("0;", "00").length(word), 0);
                CHECKS.due("length(" + word + ") of thirty words", Runs.made("", Runs.THIRTY).length(word), 0);
            }
            CHECKS.due("the number of words", Runs.made("0;", "00").length(2), 0);
            CHECKS.due("less than the number of letters", Runs.made("0+;", "000").length(1), 0);
            CHECKS.due("one word of thirty letters", Runs.made(".*;", Runs.THIRTY).length(1), 0);
        });
        CHECKS.sentence("Promise 8: 0 if there is none: an empty text", () -> {
            CHECKS.due("a new object", new LexTables().length(0), 0);
            CHECKS.due("with a rule of the empty row", Runs.made("e;", "").length(0), 0);
            LexTables x = Runs.made("0;", "000");
            CHECKS.due("before erase", x.length(2), 1);
            x.erase();
            CHECKS.due("after erase", x.length(0), 0);
            x.type(0);
            CHECKS.due("no word left from before", x.length(1), 0);
            CHECKS.due("the new word", x.length(0), 1);
        });
    }
}
