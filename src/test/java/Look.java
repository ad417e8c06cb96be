import java.util.Arrays;
import java.util.function.IntUnaryOperator;
import java.util.stream.IntStream;

/** Rows of answers of a bank, and all together that can be seen of one. */
final class Look {
    private Look() {
    }

    /** The answers for 0, 1, .. below n. */
    static int[] row(int n, IntUnaryOperator answer) {
        return IntStream.range(0, n).map(answer).toArray();
    }

    static int[] glass(Bank bank, int i) {
        return row(6, what -> bank.glass(i, what));
    }

    static int[] has(Bank bank) {
        return row(6, bank::has);
    }

    static int[] counts(Bank bank) {
        return row(8, bank::count);
    }

    static int[] stolen(Bank bank, int i) {
        return row(4, what -> bank.stolen(i, what));
    }

    static int[] later(Bank bank, int t) {
        return row(6, h -> bank.later(t, h));
    }

    static int[] split(Bank bank, int r) {
        return row(6, h -> bank.split(r, h));
    }

    static int[] nightHas(Bank bank, int z, int t) {
        return row(6, h -> bank.nightHas(z, t, h));
    }

    /** All that can be seen of a bank. It is looked at by twins, so that it stays as it is. */
    static String all(Bank bank) {
        return now(bank.twin()) + ahead(bank.twin()) + undone(bank.twin()) + cameBack(bank.twin())
                + told(bank.twin());
    }

    /** What is on the shelf, and what was counted. */
    static String shelf(Bank bank) {
        return now(bank.twin()) + ahead(bank.twin());
    }

    /** The glasses alone, without how many can be undone. */
    static String glasses(Bank bank) {
        StringBuilder s = new StringBuilder();
        glasses(s, bank.twin(), 6);
        return s.toString();
    }

    private static String now(Bank bank) {
        StringBuilder s = new StringBuilder("now ").append(Arrays.toString(counts(bank)))
                .append(Arrays.toString(has(bank))).append(bank.fault());
        glasses(s, bank, 6);
        thefts(s, bank);
        return s.toString();
    }

    private static String ahead(Bank bank) {
        StringBuilder s = new StringBuilder("\nahead ");
        s.append(Arrays.toString(row(6, h -> bank.later(9, h))));
        s.append(Arrays.toString(row(3, bank::run))).append(bank.empty(12));
        s.append(Arrays.toString(row(6, h -> bank.split(97, h))));
        s.append(Arrays.toString(row(6, h -> bank.nightHas(3, 40, h))));
        s.append(bank.round(1, 7, -1)).append(' ').append(bank.round(1, 7, 0));
        int clerks = bank.count(1);
        for (int k = 0; k < clerks; k++) {
            s.append(' ').append(bank.gains(k, 5, 20, 0)).append(' ').append(bank.gains(k, 5, 20, 1));
        }
        return s.toString();
    }

    private static String undone(Bank bank) {
        StringBuilder s = new StringBuilder("\nundone");
        for (int left = bank.undo(); left >= 0; left = bank.undo()) {
            s.append(' ').append(left);
            glasses(s, bank, 3);
        }
        return s.toString();
    }

    private static String cameBack(Bank bank) {
        StringBuilder s = new StringBuilder("\nback");
        for (int left = bank.back(); left >= 0; left = bank.back()) {
            s.append(' ').append(left).append(Arrays.toString(counts(bank)));
            glasses(s, bank, 3);
            thefts(s, bank);
        }
        return s.toString();
    }

    private static String told(Bank bank) {
        StringBuilder s = new StringBuilder("\ntold ").append(bank.fault()).append(' ')
                .append(bank.lay());
        glasses(s, bank, 6);
        return s.append(Arrays.toString(counts(bank))).append(bank.wipe()).toString();
    }

    /** The first answers of glass, up to six, for each one. */
    private static void glasses(StringBuilder s, Bank bank, int answers) {
        int n = bank.count(0);
        for (int k = 0; k < n; k++) {
            int i = k;
            s.append(Arrays.toString(row(answers, what -> bank.glass(i, what))));
        }
    }

    private static void thefts(StringBuilder s, Bank bank) {
        int n = bank.count(0);
        for (int i = 0; i < n; i++) {
            s.append(Arrays.toString(stolen(bank, i)));
        }
    }
}
