import java.util.Random;

/**
 * Random runs of calls, the same each time, by the class and by the model; none goes on behind the
 * 512th call, of which nothing is promised.
 */
public final class SandBankModelTest {
    private static final int RUNS = 1500;
    /** The most calls of a step, of many changes undone, and of a text's ends. */
    private static final int STEP = 3, MANY = 75, ENDS = 3;
    private static final int[] STRANGE = {-1, 0, 1, 2, 3, 5, 6, 7, 8, 9, 12, 13, 99, 100, 200, 201,
        999, 1000, 2000, 2001, 9999, 10000, 20000, 20001, Integer.MIN_VALUE, Integer.MAX_VALUE};

    private final Random random;
    private final SandBank bank = new SandBank();
    private final Model model = new Model();
    private final Checks checks;
    private final int run;
    private int calls = 0;
    private String call = "";

    private SandBankModelTest(int run, Checks checks) {
        this.run = run;
        this.checks = checks;
        this.random = new Random(7000L + run);
    }

    public static void main(String[] args) {
        Checks checks = new Checks();
        for (int run = 0; run < RUNS; run++) {
            new SandBankModelTest(run, checks).play();
        }
        checks.close("SandBankModelTest");
    }

    private void play() {
        tellText();
        while (hasRoom(STEP)) {
            if (random.nextInt(100) == 0 && hasRoom(MANY + STEP)) {
                changeAndUndo();
            }
            step(random.nextInt(100));
        }
    }

    private boolean hasRoom(int more) {
        return calls + more <= Bank.PROMISED_CALLS;
    }

    /** Compares the answers of one call. */
    private void due(String name, int got, int want) {
        calls++;
        checks.due("run " + run + ": " + name, got, want);
    }

    /** A number from low to high as a rule, a strange one now and then. */
    private int pick(int low, int high) {
        int v = random.nextInt(40) == 0 ? STRANGE[random.nextInt(STRANGE.length)]
                : low + random.nextInt(high - low + 1);
        call += " " + v;
        return v;
    }

    private int glass() {
        return pick(0, Math.max(0, model.count(0) - 1));
    }

    private int clerk() {
        return pick(0, Math.max(0, model.count(1) - 1));
    }

    private int ahead() {
        return random.nextInt(300) == 0 ? pick(0, 20000) : pick(0, 130);
    }

    private void tellText() {
        String text = text();
        byte[] bytes = text.getBytes(java.nio.charset.StandardCharsets.ISO_8859_1);
        if (!hasRoom(bytes.length + ENDS)) {
            text = "";
            bytes = new byte[0];
        }
        due("wipe", bank.wipe(), model.wipe());
        int at = 0;
        while (at < bytes.length) {
            int n = Math.min(1 + random.nextInt(8), bytes.length - at);
            long v = random.nextLong();
            for (int k = 0; k < n; k++) {
                v = v << 8 | bytes[at + k] & 255;
            }
            due("write " + n + " of " + text, bank.write(n, v), model.write(n, v));
            at += n;
        }
        due("fault of " + text, bank.fault(), model.fault());
        due("lay of " + text, bank.lay(), model.lay());
    }

    private String text() {
        StringBuilder s = new StringBuilder();
        int glasses = random.nextInt(50) == 0 ? 9 : 1 + random.nextInt(8);
        int big = random.nextBoolean() ? 60 : 1000;
        for (int i = 0; i < glasses; i++) {
            item(s, 'g', random.nextInt(4), random.nextInt(6), random.nextInt(6),
                    1 + random.nextInt(random.nextBoolean() ? 5 : 60),
                    random.nextInt(big), random.nextInt(3) == 0 ? random.nextInt(big) : 0);
        }
        int more = random.nextInt(18);
        for (int k = 0; k < more && s.length() < 390; k++) {
            int i = random.nextInt(glasses);
            switch (random.nextInt(6)) {
                case 0:
                case 1:
                    item(s, 'y', i, (i + 1 + random.nextInt(Math.max(1, glasses - 1))) % glasses);
                    break;
                case 2:
                case 3:
                    item(s, 'c', i, 1 + random.nextInt(random.nextBoolean() ? 12 : 99),
                            random.nextInt(random.nextBoolean() ? 12 : 100));
                    break;
                case 4:
                    item(s, 'p', i, random.nextInt(6));
                    break;
                default:
                    item(s, 'r', random.nextInt(random.nextBoolean() ? 10 : 100), random.nextInt(100));
                    break;
            }
        }
        if (random.nextInt(4) == 0) {
            spoil(s);
        }
        return s.toString();
    }

    private void item(StringBuilder s, char letter, int... numbers) {
        s.append(letter);
        for (int k = 0; k < numbers.length; k++) {
            String figures = random.nextInt(30) == 0 ? "00" + numbers[k] : "" + numbers[k];
            s.append(k == 0 ? "" : ",").append(figures);
        }
        s.append(';');
    }

    private void spoil(StringBuilder s) {
        String signs = "gycprx,;0123456789- " + (char) 0 + (char) 200;
        int at = random.nextInt(s.length());
        char sign = signs.charAt(random.nextInt(signs.length()));
        switch (random.nextInt(4)) {
            case 0:
                s.setCharAt(at, sign);
                break;
            case 1:
                s.insert(at, sign);
                break;
            case 2:
                s.deleteCharAt(at);
                break;
            default:
                s.setLength(at);
                break;
        }
    }

    private void step(int kind) {
        call = "";
        if (kind < 45) {
            change(kind);
        } else if (kind < 75) {
            look(kind);
        } else {
            foresee(kind);
        }
    }

    private void change(int kind) {
        if (kind < 10) {
            int n = random.nextInt(12) == 0 ? pick(1, 999) : pick(1, 9);
            due("minutes" + call, bank.minutes(n), model.minutes(n));
        } else if (kind < 20) {
            int i = glass();
            due("turn" + call, bank.turn(i), model.turn(i));
        } else if (kind < 30) {
            int i = glass();
            int s = pick(0, 1);
            int j = glass();
            int r = pick(0, 1);
            int most = Math.max(1, model.glass(i, s));
            int n = random.nextInt(3) == 0 ? most : pick(1, most);
            due("pour" + call, bank.pour(i, s, j, r, n), model.pour(i, s, j, r, n));
        } else if (kind < 36) {
            due("undo", bank.undo(), model.undo());
        } else if (kind < 41) {
            int i = glass();
            int m = pick(0, 30);
            int n = Math.max(0, model.glass(i, 0) + model.glass(i, 1) + pick(-2, 2) % 9);
            due("counted" + call, bank.counted(i, m, n), model.counted(i, m, n));
        } else if (kind < 42) {
            due("keep", bank.keep(), model.keep());
        } else if (kind < 43) {
            due("back", bank.back(), model.back());
        } else if (kind < 44) {
            int n = pick(1, 8);
            long v = random.nextLong();
            due("write" + call, bank.write(n, v), model.write(n, v));
            due("fault", bank.fault(), model.fault());
        } else if (random.nextInt(4) == 0) {
            tellText();
        } else {
            due("lay", bank.lay(), model.lay());
        }
    }

    /** More turns and pourings than are known, and all of them undone that can be. */
    private void changeAndUndo() {
        for (int k = 0; k < 12; k++) {
            step(10 + random.nextInt(20));
        }
        for (int k = 0; k < 9; k++) {
            due("undo of many", bank.undo(), model.undo());
            for (int h = 0; h < 6; h++) {
                due("has " + h, bank.has(h), model.has(h));
            }
        }
    }

    private void look(int kind) {
        if (kind < 53) {
            int i = glass();
            int what = pick(0, 5);
            due("glass" + call, bank.glass(i, what), model.glass(i, what));
        } else if (kind < 59) {
            int h = pick(0, 5);
            due("has" + call, bank.has(h), model.has(h));
        } else if (kind < 64) {
            int i = glass();
            int what = pick(0, 3);
            due("stolen" + call, bank.stolen(i, what), model.stolen(i, what));
        } else if (kind < 70) {
            int r = pick(0, random.nextBoolean() ? 30 : 9999);
            int h = pick(0, 5);
            due("split" + call, bank.split(r, h), model.split(r, h));
        } else {
            int what = pick(0, 7);
            due("count" + call, bank.count(what), model.count(what));
        }
    }

    private void foresee(int kind) {
        int t = ahead();
        if (kind < 79) {
            int h = pick(0, 5);
            due("later" + call, bank.later(t, h), model.later(t, h));
        } else if (kind < 82) {
            int i = glass();
            int s = pick(0, 1);
            due("falls" + call, bank.falls(t, i, s), model.falls(t, i, s));
        } else if (kind < 84) {
            due("empty" + call, bank.empty(t), model.empty(t));
        } else if (kind < 90) {
            int k = clerk();
            int m = pick(0, 99);
            int h = pick(0, 5);
            due("late" + call, bank.late(k, m, t, h), model.late(k, m, t, h));
            due("gains 0" + call, bank.gains(k, m, t, 0), model.gains(k, m, t, 0));
            int what = pick(0, 1);
            due("gains" + call, bank.gains(k, m, t, what), model.gains(k, m, t, what));
        } else if (kind < 93) {
            int what = pick(0, 2);
            due("run" + call, bank.run(what), model.run(what));
        } else if (kind < 95) {
            int l = random.nextInt(15) == 0 ? 3 : pick(1, 2);
            int n = pick(1, 25);
            int i = pick(-1, Math.min(3, Math.max(1, l)) - 1);
            due("round" + call + " of " + l, bank.round(l, n, i), model.round(l, n, i));
        } else {
            int z = pick(0, 9999);
            int h = pick(0, 5);
            due("nightHas" + call, bank.nightHas(z, t, h), model.nightHas(z, t, h));
            int what = pick(0, 1);
            due("night" + call, bank.night(z, t, what), model.night(z, t, what));
        }
    }
}
