import java.nio.charset.StandardCharsets;
import java.util.ArrayList;
import java.util.List;
import java.util.function.ToIntFunction;

/**
 * A SandBank whose calls are remembered: twins of it can be made, on which a call is tried while
 * the bank itself stays; and no test goes on behind the 512th call, of which nothing is promised.
 */
final class Bank {
    static final int PROMISED_CALLS = 512;

    private final SandBank own = new SandBank();
    private final List<ToIntFunction<SandBank>> made = new ArrayList<>();

    static Bank written(String text) {
        Bank bank = new Bank();
        bank.tell(text);
        return bank;
    }

    static Bank laid(String text) {
        Bank bank = written(text);
        if (bank.lay() < 1) {
            throw new IllegalStateException("not laid: " + text);
        }
        return bank;
    }

    /** Another bank behind the same calls. */
    Bank twin() {
        Bank other = new Bank();
        for (ToIntFunction<SandBank> call : made) {
            other.make(call);
        }
        return other;
    }

    /** Writes a text, a sign a byte, eight bytes a call. */
    Bank tell(String text) {
        byte[] bytes = text.getBytes(StandardCharsets.ISO_8859_1);
        for (int at = 0; at < bytes.length; at += 8) {
            int n = Math.min(8, bytes.length - at);
            long v = 0;
            for (int k = 0; k < n; k++) {
                v = v << 8 | bytes[at + k] & 255;
            }
            write(n, v);
        }
        return this;
    }

    private int make(ToIntFunction<SandBank> call) {
        if (made.size() >= PROMISED_CALLS) {
            throw new IllegalStateException("a test goes on behind the 512th call");
        }
        made.add(call);
        return call.applyAsInt(own);
    }

    int write(int n, long v) {
        return make(x -> x.write(n, v));
    }

    int wipe() {
        return make(SandBank::wipe);
    }

    int fault() {
        return make(SandBank::fault);
    }

    int lay() {
        return make(SandBank::lay);
    }

    int glass(int i, int what) {
        return make(x -> x.glass(i, what));
    }

    int has(int h) {
        return make(x -> x.has(h));
    }

    int minutes(int n) {
        return make(x -> x.minutes(n));
    }

    int turn(int i) {
        return make(x -> x.turn(i));
    }

    int pour(int i, int s, int j, int r, int n) {
        return make(x -> x.pour(i, s, j, r, n));
    }

    int undo() {
        return make(SandBank::undo);
    }

    int later(int t, int h) {
        return make(x -> x.later(t, h));
    }

    int falls(int t, int i, int s) {
        return make(x -> x.falls(t, i, s));
    }

    int empty(int t) {
        return make(x -> x.empty(t));
    }

    int late(int k, int m, int t, int h) {
        return make(x -> x.late(k, m, t, h));
    }

    int gains(int k, int m, int t, int what) {
        return make(x -> x.gains(k, m, t, what));
    }

    int run(int what) {
        return make(x -> x.run(what));
    }

    int round(int l, int n, int i) {
        return make(x -> x.round(l, n, i));
    }

    int counted(int i, int m, int n) {
        return make(x -> x.counted(i, m, n));
    }

    int stolen(int i, int what) {
        return make(x -> x.stolen(i, what));
    }

    int split(int r, int h) {
        return make(x -> x.split(r, h));
    }

    int night(int z, int t, int what) {
        return make(x -> x.night(z, t, what));
    }

    int nightHas(int z, int t, int h) {
        return make(x -> x.nightHas(z, t, h));
    }

    int keep() {
        return make(SandBank::keep);
    }

    int back() {
        return make(SandBank::back);
    }

    int count(int what) {
        return make(x -> x.count(what));
    }
}
