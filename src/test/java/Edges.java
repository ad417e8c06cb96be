import java.lang.reflect.InvocationTargetException;
import java.lang.reflect.Method;
import java.util.Arrays;
import java.util.Comparator;
import java.util.function.ToIntFunction;

/** Runs the tests of a class, each named after its promise, and compares answers at edges. */
final class Edges {
    static final int BAD = SandBank.BAD, NO = SandBank.NO;
    static final int FULL = SandBank.FULL, NONE = SandBank.NONE;

    private static final int LAST_PROMISE = 26;

    /** A call of which one number is tried. */
    interface Tried {
        int on(Bank bank, int number);
    }

    private int right = 0;
    private int wrong = 0;
    private int tests = 0;
    private String test = "";

    /**
     * Runs every method whose name begins with promise and its number; exit code 1 if an answer
     * was wrong, or if one of the promises from first to last has no test.
     */
    void run(Class<?> of, int first, int last) {
        for (int promise = first; promise <= last; promise++) {
            if (runPromise(of, promise) == 0) {
                test = "promise " + promise;
                fails("has no test");
            }
        }
        close(of);
    }

    /** The same, of a class that has tests of some of the promises. */
    void runSome(Class<?> of) {
        for (int promise = 1; promise <= LAST_PROMISE; promise++) {
            runPromise(of, promise);
        }
        close(of);
    }

    private int runPromise(Class<?> of, int promise) {
        String name = "promise" + promise / 10 + promise % 10;
        Method[] all = of.getDeclaredMethods();
        Arrays.sort(all, Comparator.comparing(Method::getName));
        int before = tests;
        for (Method m : all) {
            if (m.getName().startsWith(name)) {
                runOne(m);
            }
        }
        return tests - before;
    }

    private void close(Class<?> of) {
        System.out.println(of.getName() + ": " + tests + " tests, " + right + " answers as due, "
                + wrong + " not");
        if (wrong != 0 || tests == 0) {
            System.exit(1);
        }
    }

    private void runOne(Method m) {
        test = m.getName();
        tests++;
        int before = right + wrong;
        try {
            m.setAccessible(true);
            m.invoke(null);
        } catch (InvocationTargetException e) {
            fails("threw " + e.getCause());
        } catch (IllegalAccessException e) {
            fails("can't be run: " + e);
        }
        if (right + wrong == before) {
            fails("compares nothing");
        }
    }

    private void fails(String how) {
        wrong++;
        System.out.println(test + ": " + how);
    }

    void due(String call, int got, int want) {
        if (got == want) {
            right++;
        } else {
            fails(call + " answered " + got + ", due is " + want);
        }
    }

    void dueRow(String call, int[] got, int... want) {
        if (Arrays.equals(got, want)) {
            right++;
        } else {
            fails(call + " answered " + Arrays.toString(got) + ", due is " + Arrays.toString(want));
        }
    }

    void same(String what, String got, String want) {
        if (got.equals(want)) {
            right++;
        } else {
            String[] seen = got.split("\n");
            String[] wanted = want.split("\n");
            int at = 0;
            while (at < seen.length - 1 && at < wanted.length - 1 && seen[at].equals(wanted[at])) {
                at++;
            }
            fails(what + ": " + seen[at] + ", due is " + wanted[at]);
        }
    }

    /** A call that is refused: its answer is due, and nothing changes by it. The bank stays. */
    void refused(String call, Bank bank, ToIntFunction<Bank> made, int want) {
        Bank tried = bank.twin();
        due(call, made.applyAsInt(tried), want);
        same(call + " changed something", Look.all(tried), Look.all(bank));
    }

    /** A call that only looks: nothing changes by it. The bank stays. */
    void stays(String call, Bank bank, ToIntFunction<Bank> made) {
        Bank tried = bank.twin();
        made.applyAsInt(tried);
        same(call + " changed something", Look.all(tried), Look.all(bank));
    }

    /**
     * A number that is told from low to high: both are taken, with the answers that are due, the
     * next ones to either side, and those far off, are BAD. The bank stays.
     */
    void range(String number, Bank bank, Tried call, int low, int atLow, int high, int atHigh) {
        due(number + " " + low, call.on(bank.twin(), low), atLow);
        due(number + " " + high, call.on(bank.twin(), high), atHigh);
        for (int off : new int[] {low - 1, high + 1, Integer.MIN_VALUE, Integer.MAX_VALUE}) {
            refused(number + " " + off, bank, b -> call.on(b, off), BAD);
        }
    }
}
