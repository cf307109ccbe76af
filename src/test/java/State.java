import java.util.function.Consumer;

/**
 * All that can be found out about an object by asking it, as one text. Two runs that leave the same
 * state give the same text. Many of the questions change the object, so each kind is put to an
 * object of its own on which the run was made; this also keeps each object far below 512 calls.
 */
final class State {
    private State() { }

    static String after(Consumer<LexTables> run) {
        return "cut " + Runs.cut(made(run))
            + "\nletters " + letters(made(run))
            + "\nroom for letters " + roomForLetters(made(run))
            + "\nrules " + rules(made(run))
            + "\nstack " + stack(made(run))
            + "\nroom for tokens " + roomForTokens(made(run))
            + "\nsorts " + sorts(run);
    }

    private static LexTables made(Consumer<LexTables> run) {
        LexTables x = new LexTables();
        run.accept(x);
        return x;
    }

    private static String letters(LexTables x) {
        x.clear();
        Runs.build(x, "0;1;2;3;");
        StringBuilder all = new StringBuilder();
        int words = x.words();
        for (int word = 0; word < words; word++) {
            all.append(x.sort(word));
        }
        return all.toString();
    }

    private static int roomForLetters(LexTables x) {
        int room = 0;
        while (room < 40 && x.type(0) != -1) {
            room++;
        }
        return room;
    }

    private static String rules(LexTables x) {
        StringBuilder all = new StringBuilder();
        for (int rule = -1; rule <= 6; rule++) {
            all.append(x.matches(rule)).append(" of ").append(Runs.counts(x, rule)).append("; ");
        }
        return all.toString();
    }

    /** Makes rules of the expressions from the top of the stack, as far as it goes, and asks those. */
    private static String stack(LexTables x) {
        int rule = 0;
        while (rule < 6 && x.matches(rule) != -1) {
            rule++;
        }
        StringBuilder all = new StringBuilder();
        int left = x.token(Runs.RULE, 0);
        for (; rule < 6 && left != -1; rule++) {
            all.append(x.matches(rule)).append(" of ").append(Runs.counts(x, rule));
            all.append(" over ").append(left).append("; ");
            left = x.token(Runs.RULE, 0);
        }
        return all.toString();
    }

    private static String roomForTokens(LexTables x) {
        StringBuilder all = new StringBuilder();
        int answer = x.token(Runs.LETTER, 0);
        for (int taken = 0; taken < 50 && answer != -1; taken++) {
            all.append(answer).append(' ');
            answer = x.token(Runs.LETTER, 0);
        }
        return all.toString();
    }

    private static String sorts(Consumer<LexTables> run) {
        StringBuilder all = new StringBuilder();
        for (int from = -1; from <= 31; from++) {
            LexTables x = made(run);
            for (int to = -1; to <= 31; to++) {
                all.append(x.sortOf(from, to)).append(' ');
            }
        }
        return all.toString();
    }
}
