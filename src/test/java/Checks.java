import java.nio.charset.StandardCharsets;
import java.util.Arrays;
import java.util.function.IntSupplier;

/** What the project's tests share: texts put into a bank, answers compared, state looked at. */
final class Checks {
    private int right = 0;
    private int wrong = 0;

    /** Compares one answer with the one that is due. */
    void due(String call, int got, int want) {
        if (got == want) {
            right++;
            return;
        }
        wrong++;
        System.out.println(call + " answered " + got + ", due is " + want);
    }

    /** Compares the answers of one call for 0, 1, .. with those that are due. */
    void dueRow(String call, int[] got, int... want) {
        if (Arrays.equals(got, want)) {
            right++;
            return;
        }
        wrong++;
        System.out.println(call + " answered " + Arrays.toString(got)
                + ", due is " + Arrays.toString(want));
    }

    /** A call that is refused: the answer is due, and nothing may have changed. */
    void refused(SandBank bank, String call, IntSupplier made, int want) {
        String before = state(bank);
        due(call, made.getAsInt(), want);
        String after = state(bank);
        if (!before.equals(after)) {
            wrong++;
            System.out.println(call + " changed " + before + " into " + after);
        }
    }

    /** Says how it went; the exit code is 1 if an answer was wrong. */
    void close(String name) {
        System.out.println(name + ": " + right + " answers as due, " + wrong + " not");
        if (wrong != 0) {
            System.exit(1);
        }
    }

    /** Writes a text, a sign a byte, eight bytes a call. */
    static void write(SandBank bank, String text) {
        byte[] bytes = text.getBytes(StandardCharsets.ISO_8859_1);
        for (int at = 0; at < bytes.length; at += 8) {
            int n = Math.min(8, bytes.length - at);
            long v = 0;
            for (int k = 0; k < n; k++) {
                v = v << 8 | bytes[at + k] & 255;
            }
            bank.write(n, v);
        }
    }

    static SandBank written(String text) {
        SandBank bank = new SandBank();
        write(bank, text);
        return bank;
    }

    static SandBank laid(String text) {
        SandBank bank = written(text);
        if (bank.lay() < 1) {
            throw new IllegalStateException("not laid: " + text);
        }
        return bank;
    }

    static int[] has(SandBank bank) {
        int[] row = new int[6];
        for (int h = 0; h < row.length; h++) {
            row[h] = bank.has(h);
        }
        return row;
    }

    static int[] later(SandBank bank, int t) {
        int[] row = new int[6];
        for (int h = 0; h < row.length; h++) {
            row[h] = bank.later(t, h);
        }
        return row;
    }

    static int[] nightHas(SandBank bank, int z, int t) {
        int[] row = new int[6];
        for (int h = 0; h < row.length; h++) {
            row[h] = bank.nightHas(z, t, h);
        }
        return row;
    }

    static int[] split(SandBank bank, int r) {
        int[] row = new int[6];
        for (int h = 0; h < row.length; h++) {
            row[h] = bank.split(r, h);
        }
        return row;
    }

    static int[] glass(SandBank bank, int i) {
        int[] row = new int[6];
        for (int what = 0; what < row.length; what++) {
            row[what] = bank.glass(i, what);
        }
        return row;
    }

    static int[] counts(SandBank bank) {
        int[] row = new int[8];
        for (int what = 0; what < row.length; what++) {
            row[what] = bank.count(what);
        }
        return row;
    }

    static int[] stolen(SandBank bank, int i) {
        int[] row = new int[4];
        for (int what = 0; what < row.length; what++) {
            row[what] = bank.stolen(i, what);
        }
        return row;
    }

    /** All that can be asked of the shelves without changing them. */
    static String state(SandBank bank) {
        StringBuilder all = new StringBuilder(Arrays.toString(counts(bank)));
        all.append(Arrays.toString(has(bank))).append(bank.fault());
        for (int i = 0; i < bank.count(0); i++) {
            all.append(Arrays.toString(glass(bank, i))).append(Arrays.toString(stolen(bank, i)));
        }
        all.append(Arrays.toString(later(bank, 50))).append(Arrays.toString(nightHas(bank, 3, 50)));
        return all.toString();
    }
}
