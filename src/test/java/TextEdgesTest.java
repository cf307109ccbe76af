import java.util.function.Consumer;

/** Each sentence of the promises 4 and 5 that names a boundary case. */
public final class TextEdgesTest {
    private static final Checks CHECKS = new Checks();

    public static void main(String[] args) {
        letters();
        fullText();
        erase();
        CHECKS.finish("TextEdgesTest");
    }

    private static void letters() {
        CHECKS.sentence("Promise 4: Adds the letter letter & 3", () -> {
            int[][] pairs = {
                {0, 0}, {1, 1}, {2, 2}, {3, 3}, {4, 0}, {5, 1}, {6, 2}, {7, 3}, {8, 0}, {30, 2}, {31, 3},
                {-1, 3}, {-2, 2}, {-3, 1}, {-4, 0}, {-5, 3}, {256, 0},
                {Runs.MOST, 3}, {Runs.MOST - 1, 2}, {Runs.LEAST, 0}, {Runs.LEAST + 1, 1},
            };
            for (int[] pair : pairs) {
                LexTables x = Runs.made("0;1;2;3;", "");
                CHECKS.due("type(" + pair[0] + ")", x.type(pair[0]), 1);
                CHECKS.due("the letter of type(" + pair[0] + ")", x.sort(0), pair[1]);
            }
        });
        CHECKS.sentence("Promise 4: at the end of the text", () -> {
            LexTables x = Runs.made("0;1;2;3;", "0");
            x.type(1);
            CHECKS.due("two letters", Runs.cut(x), "1:0 1:1");
            x.type(3);
            CHECKS.due("three letters", Runs.cut(x), "1:0 1:1 1:3");
            LexTables y = Runs.made("0;1;2;3;", "0".repeat(29) + "3");
            CHECKS.due("the last of thirty", y.sort(29), 3);
            CHECKS.due("the last but one", y.sort(28), 0);
            CHECKS.due("the first of thirty", y.sort(0), 0);
        });
        CHECKS.sentence("Promise 4: Answers the number of letters then", () -> {
            LexTables x = new LexTables();
            for (int i = 1; i <= 30; i++) {
                CHECKS.due("letter " + i, x.type(3 - i), i);
            }
        });
    }

    private static void fullText() {
        CHECKS.sentence("Promise 4: -1, and changes nothing, if there are 30", () -> {
            for (int letter : new int[] {0, 1, 2, 3, 4, -1, 30, Runs.LEAST, Runs.MOST}) {
                LexTables x = Runs.made("", Runs.THIRTY);
                CHECKS.due("type(" + letter + ") as letter 31", x.type(letter), -1);
                CHECKS.due("type(" + letter + ") again", x.type(letter), -1);
                for (String tokens : new String[] {"", "0;1;2;3;", "01,;.*;2", Runs.FORTY}) {
                    Consumer<LexTables> full = Runs.run(tokens, Runs.THIRTY);
                    Consumer<LexTables> refused = full.andThen(y -> y.type(letter));
                    String want = State.after(full);
                    CHECKS.due("the state after type(" + letter + ")", State.after(refused), want);
                }
            }
        });
        CHECKS.sentence("Promise 4: if there are 30: what is answered after many refused letters", () -> {
            LexTables x = Runs.made("0;1;2;3;", Runs.THIRTY);
            for (int i = 0; i < 50; i++) {
                CHECKS.due("a letter too many", x.type(2), -1);
            }
            CHECKS.due("words", x.words(), 30);
            for (int word = 0; word < 30; word++) {
                CHECKS.due("letter " + word, x.sort(word), word % 4);
            }
            CHECKS.due("no place 31", x.sortOf(30, 31), -2);
            CHECKS.due("the last place", x.sortOf(29, 30), 1);
            x.erase();
            CHECKS.due("the first letter after erase", x.type(2), 1);
            CHECKS.due("is the only one", Runs.cut(x), "1:2");
        });
        CHECKS.sentence("Promise 4: the 30th letter is taken, the first one too", () -> {
            LexTables x = Runs.made("", "0".repeat(29));
            CHECKS.due("letter 30", x.type(0), 30);
            CHECKS.due("letter 31", x.type(0), -1);
            CHECKS.due("letter 1", new LexTables().type(0), 1);
        });
        CHECKS.sentence("Promise 4: 40 tokens and 5 rules leave room for letters", () -> {
            CHECKS.due("after 40 tokens", Runs.typeAll(Runs.made(Runs.FORTY, ""), Runs.THIRTY), 30);
            CHECKS.due("after five rules", Runs.typeAll(Runs.made(Runs.FIVE_RULES, ""), Runs.THIRTY), 30);
            LexTables full = Runs.made("", Runs.THIRTY);
            CHECKS.due("30 letters leave room for tokens", Runs.build(full, "0".repeat(40)), 40);
        });
    }

    private static void erase() {
        CHECKS.sentence("Promise 5: Makes the text empty", () -> {
            for (String letters : new String[] {"0", "0123", Runs.THIRTY}) {
                LexTables x = Runs.made("0;e;.*;", letters);
                x.erase();
                CHECKS.due("words", x.words(), 0);
                CHECKS.due("sort(0)", x.sort(0), -2);
                CHECKS.due("length(0)", x.length(0), 0);
                CHECKS.due("a row of one letter", x.matches(0), 0);
                CHECKS.due("the empty row", x.matches(1), 1);
                CHECKS.due("the empty word", x.sortOf(0, 0), 1);
                CHECKS.due("no place 1", x.sortOf(0, 1), -2);
                CHECKS.due("the first letter again", x.type(3), 1);
                CHECKS.due("is all there is", Runs.cut(x), "1:2");
            }
        });
        CHECKS.sentence("Promise 5: a full text can be typed again after it", () -> {
            LexTables x = Runs.made("0;1;2;3;", Runs.THIRTY);
            x.erase();
            for (int i = 1; i <= 30; i++) {
                CHECKS.due("letter " + i, x.type(3), i);
            }
            CHECKS.due("letter 31", x.type(3), -1);
            for (int word = 0; word < 30; word++) {
                CHECKS.due("no letter from before at " + word, x.sort(word), 3);
            }
        });
        CHECKS.sentence("Promise 5: erase of an empty text", () -> {
            Consumer<LexTables> twice = x -> {
                x.erase();
                x.erase();
            };
            CHECKS.due("a new object", State.after(twice), State.after(x -> { }));
            Consumer<LexTables> erased = Runs.run("0;1", "01").andThen(twice);
            CHECKS.due("after an erase", State.after(erased), State.after(Runs.run("0;1", "")));
        });
        CHECKS.sentence("Promise 5: the text, and nothing else", () -> {
            for (String tokens : new String[] {"", "01", "0;1;e", Runs.FIVE_RULES + "01", Runs.FORTY}) {
                Consumer<LexTables> erased = Runs.run(tokens, Runs.THIRTY).andThen(LexTables::erase);
                String want = State.after(Runs.run(tokens, ""));
                CHECKS.due("the state after '" + tokens + "'", State.after(erased), want);
            }
        });
    }
}
