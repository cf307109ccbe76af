/** Counts and prints the answers that are not the due ones. */
final class Checks {
    private static final long LONGEST_MILLIS = 10 * 60 * 1000;

    private int made = 0;
    private int wrong = 0;

    Checks() {
        Thread watch = new Thread(Checks::failWhenTooLong);
        watch.setDaemon(true);
        watch.start();
    }

    /** A call that does not end must fail the test, not hold it up for ever. */
    private static void failWhenTooLong() {
        try {
            Thread.sleep(LONGEST_MILLIS);
        } catch (InterruptedException interrupted) {
            return;
        }
        System.out.println("a call does not end");
        Runtime.getRuntime().halt(1);
    }

    /** Runs the checks of one sentence; that they fail, or that there are none, is told by its name. */
    void sentence(String sentence, Runnable checks) {
        int madeBefore = made;
        int wrongBefore = wrong;
        try {
            checks.run();
        } catch (RuntimeException | StackOverflowError thrown) {
            wrong++;
            System.out.println("a call threw " + thrown);
        }
        if (made == madeBefore) {
            wrong++;
            System.out.println("nothing was checked");
        }
        if (wrong > wrongBefore) {
            System.out.println("BROKEN: " + sentence);
        }
    }

    void due(String what, long got, long want) {
        made++;
        if (got != want) {
            wrong++;
            System.out.println(what + " answered " + got + ", due is " + want);
        }
    }

    void due(String what, String got, String want) {
        made++;
        if (!got.equals(want)) {
            wrong++;
            System.out.println(what + " is " + differing(got, want) + ", due is " + differing(want, got));
        }
    }

    /** The first line of a text that the other has not in its place; a whole state is long. */
    private static String differing(String text, String other) {
        String[] lines = text.split("\n");
        String[] others = other.split("\n");
        for (int i = 0; i < lines.length; i++) {
            if (i >= others.length || !lines[i].equals(others[i])) {
                return "'" + lines[i] + "'";
            }
        }
        return "shorter";
    }

    void holds(String what, boolean truth) {
        made++;
        if (!truth) {
            wrong++;
            System.out.println(what + " does not hold");
        }
    }

    int wrong() {
        return wrong;
    }

    void finish(String name) {
        System.out.println(name + ": " + made + " checks, " + wrong + " wrong");
        if (wrong != 0 || made == 0) {
            System.exit(1);
        }
    }
}
