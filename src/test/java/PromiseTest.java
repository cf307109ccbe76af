/**
 * The promises of the document one by one, with ordinary inputs. The boundary cases are in the
 * tests of the edges.
 */
public final class PromiseTest {
    private static final Checks CHECKS = new Checks();

    public static void main(String[] args) {
        promise1NewObject();
        promise2Token();
        promise2Building();
        promise2Repetitions();
        promise3Clear();
        promise4Type();
        promise5Erase();
        promise6Words();
        promise7Sort();
        promise8Length();
        promise9Matches();
        promise10Count();
        promise11SortOf();
        objectsAreApart();
        CHECKS.finish("PromiseTest");
    }

    private static void due(String what, long got, long want) {
        CHECKS.due(what, got, want);
    }

    private static void dueCut(LexTables x, String want) {
        CHECKS.due("the cut", Runs.cut(x), want);
    }

    private static void promise1NewObject() {
        LexTables x = new LexTables();
        due("no words", x.words(), 0);
        due("no rule", x.matches(0), -1);
        due("first letter", x.type(0), 1);
        due("first expression", x.token(Runs.LETTER, 0), 1);
        due("first rule", x.token(Runs.RULE, 0), 0);
        dueCut(x, "1:0");
    }

    private static void promise2Token() {
        LexTables x = new LexTables();
        due("LETTER", x.token(Runs.LETTER, 2), 1);
        due("ANY", x.token(Runs.ANY, 0), 2);
        due("EMPTY", x.token(Runs.EMPTY, 0), 3);
        due("STAR", x.token(Runs.STAR, 0), 3);
        due("PLUS", x.token(Runs.PLUS, 0), 3);
        due("THEN", x.token(Runs.THEN, 0), 2);
        due("OR", x.token(Runs.OR, 0), 1);
        due("LETTER again", x.token(Runs.LETTER, 1), 2);
        due("RULE with one left under it", x.token(Runs.RULE, 0), 1);
        due("the rule is the top one", x.count(0, 1), 1);
        due("RULE of the last", x.token(Runs.RULE, 0), 0);
        due("the next rule", x.count(1, 1), 4);
        due("THEN of none", x.token(Runs.THEN, 0), -1);
        due("no such code", x.token(8, 0), -1);
    }

    private static void promise2Building() {
        due("LETTER has its letter", matches("2", "2"), 1);
        due("LETTER has no other", matches("2", "1"), 0);
        due("ANY has a letter", matches(".", "3"), 1);
        due("ANY has no row of two", matches(".", "00"), 0);
        due("THEN: the lower one first", matches("01,", "01"), 1);
        due("THEN: not the upper one first", matches("01,", "10"), 0);
        due("THEN: not one alone", matches("01,", "0"), 0);
        due("THEN finds the right split", matches("0*00,,", "0000"), 1);
        due("OR has the lower", matches("01|", "0"), 1);
        due("OR has the upper", matches("01|", "1"), 1);
        due("OR has no other", matches("01|", "2"), 0);
        due("OR has not both", matches("01|", "01"), 0);
        due("two rows that begin alike, the first", matches("01,2,01,3,|", "012"), 1);
        due("two rows that begin alike, the second", matches("01,2,01,3,|", "013"), 1);
    }

    private static int matches(String expression, String letters) {
        return Runs.matches(expression, letters);
    }

    private static void promise2Repetitions() {
        for (String sign : new String[] {"*", "+"}) {
            due(sign + " of one", matches("0" + sign, "0"), 1);
            due(sign + " of another letter", matches("0" + sign, "001"), 0);
            due(sign + " of two letters", matches("01," + sign, "010101"), 1);
            due(sign + " of two letters and a half", matches("01," + sign, "01010"), 0);
            due(sign + " of different rows", matches("01,2|" + sign, "0122012"), 1);
            due(sign + " of what has an empty row too", matches("0e|" + sign, "000"), 1);
            due(sign + " of STAR", matches("0*" + sign, "000"), 1);
            due(sign + " of PLUS of two or three", matches("00,00,0,|+" + sign, "0"), 0);
            due(sign + " of two or three", matches("00,00,0,|" + sign, "0000000"), 1);
            due(sign + " before more", matches("0" + sign + "01,,", "0001"), 1);
        }
        due("STAR has the empty row", matches("0*", ""), 1);
        due("PLUS has it not", matches("0+", ""), 0);
    }

    private static void promise3Clear() {
        LexTables x = Runs.made("0;1;2", "010");
        x.clear();
        due("no rule", x.matches(0), -1);
        due("no expression", x.token(Runs.STAR, 0), -1);
        dueCut(x, "1:-1 1:-1 1:-1");
        due("the text stays", x.type(3), 4);
        due("rules begin at 0 again", Runs.build(x, "01,;"), 0);
        dueCut(x, "2:0 1:-1 1:-1");
    }

    private static void promise4Type() {
        LexTables x = Runs.made("01,;", "");
        due("one letter", x.type(0), 1);
        due("not yet a row", x.matches(0), 0);
        due("two letters", x.type(1), 2);
        due("a row", x.matches(0), 1);
        due("three letters", x.type(6), 3);
        due("no row any more", x.matches(0), 0);
    }

    private static void promise5Erase() {
        LexTables x = Runs.made("0;e;1", "000");
        x.erase();
        due("no words", x.words(), 0);
        due("the empty text", x.matches(1), 1);
        due("the rules stay", x.matches(0), 0);
        due("the stack stays", x.token(Runs.RULE, 0), 0);
        due("first letter again", x.type(1), 1);
        due("only the new letter", x.matches(2), 1);
    }

    private static void promise6Words() {
        due("each letter", Runs.made(".;", "0123").words(), 4);
        due("no rule", Runs.made("", "0123").words(), 4);
        due("one word", Runs.made(".*;", "0123").words(), 1);
        due("two words", Runs.made("01,;23,;", "0123").words(), 2);
    }

    private static void promise7Sort() {
        dueCut(Runs.made("0;00,;0+;", "0001"), "3:2 1:-1");
        dueCut(Runs.made("0;00,;0+;", "001"), "2:1 1:-1");
        dueCut(Runs.made("0;00,;0+;", "01"), "1:0 1:-1");
        dueCut(Runs.made("0+;00,;0;", "00"), "2:0");
        dueCut(Runs.made("0;01,0,1,1,;1;", "010101011"), "1:0 1:2 1:0 1:2 5:1");
        dueCut(Runs.made("0;01,2,3,;", "012012301"), "1:0 1:-1 1:-1 4:1 1:0 1:-1");
        dueCut(Runs.made("e;0*;", "0010"), "2:1 1:-1 1:1");
        dueCut(Runs.made(".;", "31"), "1:0 1:0");
        dueCut(Runs.made("3;2;1;0;.;", "0123"), "1:3 1:2 1:1 1:0");
        dueCut(Runs.made("33,;22,;11,;00,;..,;", "0123312"), "2:4 2:4 2:4 1:-1");
        LexTables x = Runs.made("0+;12,;", "0001203");
        due("sort of the first", x.sort(0), 0);
        due("sort of the second", x.sort(1), 1);
        due("sort of the last", x.sort(3), -1);
        due("sort after the last", x.sort(4), -2);
    }

    private static void promise8Length() {
        LexTables x = Runs.made("0+;12,;", "0001203");
        due("three letters", x.length(0), 3);
        due("two letters", x.length(1), 2);
        due("one letter of a rule", x.length(2), 1);
        due("one letter of none", x.length(3), 1);
        due("after the last", x.length(4), 0);
    }

    private static void promise9Matches() {
        LexTables x = Runs.made("01,;0+;.*;", "01");
        due("the whole text", x.matches(0), 1);
        due("a beginning is not enough", x.matches(1), 0);
        due("every text", x.matches(2), 1);
        due("no such rule", x.matches(3), -1);
        Runs.write(x, "101");
        due("an end is not enough", x.matches(0), 0);
        LexTables y = Runs.made("0;1;2;3;.;", "3");
        for (int rule = 0; rule < 5; rule++) {
            due("one of five rules, " + rule, y.matches(rule), rule >= 3 ? 1 : 0);
        }
    }

    private static void promise10Count() {
        LexTables x = Runs.made(".*;0;e;01|*;00,1|+;", "3");
        String[] want = {"1 4 16 64 256", "0 1 0 0 0", "1 0 0 0 0", "1 2 4 8 16", "0 1 2 3 5"};
        for (int rule = 0; rule < 5; rule++) {
            CHECKS.due("counts of rule " + rule, Runs.counts(x, rule), want[rule]);
        }
        due("a row found in two ways is one row", Runs.made("00|0.||;", "").count(0, 1), 4);
        due("and so in repetitions", Runs.made("0*0*,;", "").count(0, 4), 1);
        due("the last letter counts as others", Runs.made("3...,,,;", "").count(0, 4), 64);
        LexTables y = Runs.made("0;1;2;01,2|*;", "201210");
        due("count beside a text", y.count(3, 4), 5);
        dueCut(y, "4:3 1:1 1:0");
        due("the text stays", y.type(1), 7);
    }

    private static void promise11SortOf() {
        LexTables x = Runs.made("01,;0;.+;", "0120");
        due("two letters", x.sortOf(0, 2), 0);
        due("one letter", x.sortOf(0, 1), 1);
        due("the last letter", x.sortOf(3, 4), 1);
        due("the least rule", x.sortOf(1, 2), 2);
        due("the whole text", x.sortOf(0, 4), 2);
        due("the empty word", x.sortOf(2, 2), -1);
        due("past the text", x.sortOf(0, 5), -2);
        due("an empty row", Runs.build(x, "0*;"), 0);
        due("the empty word now", x.sortOf(4, 4), 3);
        due("a word that the cut does not make", x.sortOf(1, 3), 2);
        due("no rule has it", Runs.made("0;", "0120").sortOf(1, 3), -1);
    }

    private static void objectsAreApart() {
        LexTables x = Runs.made("0;", "0");
        LexTables y = Runs.made("1;", "11");
        due("x has its own rule", x.matches(0), 1);
        due("y has its own text", y.words(), 2);
        y.clear();
        y.erase();
        due("x keeps its rule", x.matches(0), 1);
        due("x keeps its text", x.words(), 1);
    }
}
