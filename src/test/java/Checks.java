/** Compares answers, and says how it went. */
final class Checks {
    private int right = 0;
    private int wrong = 0;

    /** Compares one answer with the one that is due. */
    void due(String call, int got, int want) {
        if (got == want) {
            right++;
            return;
        }
        wrong++;
        System.out.println(call + " answered " + got + ", due is " + want);
    }

    /** Says how it went; the exit code is 1 if an answer was wrong. */
    void close(String name) {
        System.out.println(name + ": " + right + " answers as due, " + wrong + " not");
        if (wrong != 0) {
            System.exit(1);
        }
    }
}
