/** Long mixed runs of calls, each answer compared with the model's. */
public final class ModelTest {
    private static final int RUNS = 3000;
    private static final int CALLS = 512;
    private static final int[] ODD = {
        Integer.MIN_VALUE, Integer.MIN_VALUE + 1, -5, -1, 8, 30, 31, 32, 40, 41, Integer.MAX_VALUE
    };

    private static final Checks CHECKS = new Checks();

    // Written out here, so that a run that failed fails again on every machine.
    private static long seed;

    private static int below(int bound) {
        seed = seed * 6364136223846793005L + 1442695040888963407L;
        return (int) ((seed >>> 33) % bound);
    }

    private static int number(int bound) {
        return below(12) == 0 ? ODD[below(ODD.length)] : below(bound);
    }

    public static void main(String[] args) {
        for (int run = 0; run < RUNS && CHECKS.wrong() == 0; run++) {
            seed = run;
            mixedRun("run " + run);
        }
        for (int length = 1; length <= 4 && CHECKS.wrong() == 0; length++) {
            allExpressions(length);
        }
        CHECKS.finish("ModelTest");
    }

    private static void mixedRun(String name) {
        LexTables real = new LexTables();
        Model model = new Model();
        int letters = 1 + below(4);
        int leaning = below(3);
        for (int call = 0; call < CALLS; call++) {
            oneCall(name + " call " + call + ": ", real, model, letters, leaning);
        }
    }

    private static void oneCall(String at, LexTables real, Model model, int letters, int leaning) {
        int kind = below(200);
        if (kind < 60) {
            int code = code(leaning);
            int arg = below(20) == 0 ? ODD[below(ODD.length)] : below(letters);
            CHECKS.due(at + "token(" + code + ", " + arg + ")",
                real.token(code, arg), model.token(code, arg));
        } else if (kind < 100) {
            int letter = below(20) == 0 ? ODD[below(ODD.length)] : below(letters);
            CHECKS.due(at + "type(" + letter + ")", real.type(letter), model.type(letter));
        } else if (kind < 102) {
            real.clear();
            model.clear();
        } else if (kind < 104) {
            real.erase();
            model.erase();
        } else {
            ask(at, real, model);
        }
    }

    private static void ask(String at, LexTables real, Model model) {
        int a = number(8);
        int b = number(6);
        switch (below(6)) {
            case 0 -> CHECKS.due(at + "words()", real.words(), model.words());
            case 1 -> CHECKS.due(at + "sort(" + a + ")", real.sort(a), model.sort(a));
            case 2 -> CHECKS.due(at + "length(" + a + ")", real.length(a), model.length(a));
            case 3 -> CHECKS.due(at + "matches(" + b + ")", real.matches(b), model.matches(b));
            case 4 -> {
                int n = number(6);
                CHECKS.due(at + "count(" + b + ", " + n + ")", real.count(b, n), model.count(b, n));
            }
            default -> {
                int from = number(20);
                int to = below(3) == 0 ? number(31) : from + below(8);
                CHECKS.due(at + "sortOf(" + from + ", " + to + ")",
                    real.sortOf(from, to), model.sortOf(from, to));
            }
        }
    }

    /** Runs differ in how soon they make rules, so that both many small and few large come up. */
    private static int code(int leaning) {
        if (below(40) == 0) {
            return ODD[below(ODD.length)];
        }
        if (below(6 + leaning * 8) == 0) {
            return LexTables.RULE;
        }
        if (below(2) == 0) {
            int leaf = below(10);
            return leaf < 7 ? LexTables.LETTER : leaf < 9 ? LexTables.ANY : LexTables.EMPTY;
        }
        int join = below(10);
        return join < 4 ? LexTables.THEN : join < 7 ? LexTables.OR : join < 9 ? LexTables.STAR
            : LexTables.PLUS;
    }

    /** Every row of so many tokens out of eight, as one rule, over all texts of up to 4 letters. */
    private static void allExpressions(int length) {
        int all = 1;
        for (int i = 0; i < length; i++) {
            all *= 8;
        }
        for (int choice = 0; choice < all && CHECKS.wrong() == 0; choice++) {
            LexTables real = new LexTables();
            Model model = new Model();
            String name = "tokens";
            int rest = choice;
            for (int i = 0; i < length; i++) {
                // Two letters are enough to tell the orders of THEN apart; 7 stands for letter 1.
                int code = rest % 8 == 7 ? LexTables.LETTER : rest % 8;
                int arg = rest % 8 == 7 ? 1 : 0;
                rest /= 8;
                name += " " + code + "/" + arg;
                CHECKS.due(name, real.token(code, arg), model.token(code, arg));
            }
            CHECKS.due(name + " rule", real.token(7, 0), model.token(7, 0));
            for (int n = 0; n <= 4; n++) {
                CHECKS.due(name + " count(0, " + n + ")", real.count(0, n), model.count(0, n));
            }
            for (int letters = 0; letters < 16; letters++) {
                real.erase();
                model.erase();
                CHECKS.due(name + " empty text", real.matches(0), model.matches(0));
                for (int i = 0; i < 4; i++) {
                    int letter = letters >> i & 1;
                    CHECKS.due(name + " type", real.type(letter), model.type(letter));
                    CHECKS.due(name + " matches", real.matches(0), model.matches(0));
                }
                CHECKS.due(name + " words", real.words(), model.words());
                CHECKS.due(name + " sort", real.sort(0), model.sort(0));
                CHECKS.due(name + " length", real.length(0), model.length(0));
            }
        }
    }
}
