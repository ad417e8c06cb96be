import java.math.BigInteger;
import java.nio.charset.StandardCharsets;
import java.util.ArrayDeque;
import java.util.ArrayList;
import java.util.Collections;
import java.util.Comparator;
import java.util.Deque;
import java.util.HashSet;
import java.util.List;
import java.util.Set;
import java.util.function.ToIntFunction;
import java.util.regex.Matcher;
import java.util.regex.Pattern;

/**
 * The document told a second time, as plainly as it can be, without a thought for speed:
 * every change makes a new world, and undoing or coming back takes an old one.
 */
final class Model {
    private static final int BAD = -1, NO = -2, FULL = -3, NONE = -4;

    private record Glass(int kind, int a, int b, int neck, int x, int y) { }

    private record Clerk(int glass, int every, int first) { }

    private record Count(int glass, int minute, int grains) { }

    private static final class Told {
        final List<Glass> glasses = new ArrayList<>();
        final List<int[]> ties = new ArrayList<>();
        final List<Clerk> clerks = new ArrayList<>();
        final int[] partner = new int[8];
        int breaks = 0;
        int mice = 0;
    }

    /** The glasses as they stand in a minute. */
    private final class World {
        final int[][] grains = new int[8][2];
        final boolean[] turned = new boolean[8];
        final boolean[] broken = new boolean[8];
        int minute = 0;
        int standing = 0;
        int lost = 0;
        final int[][] fallen = new int[8][2];

        World copy() {
            World w = new World();
            for (int i = 0; i < 8; i++) {
                w.grains[i] = grains[i].clone();
                w.turned[i] = turned[i];
                w.broken[i] = broken[i];
            }
            w.minute = minute;
            return w;
        }

        int upper(int i) {
            return turned[i] ? 1 : 0;
        }

        int turn(int glass) {
            Set<Integer> all = new HashSet<>();
            collect(glass, all);
            for (int i : all) {
                turned[i] = !turned[i];
            }
            return all.size();
        }

        private void collect(int glass, Set<Integer> all) {
            if (all.add(glass)) {
                for (int[] tie : told.ties) {
                    if (tie[0] == glass) {
                        collect(tie[1], all);
                    }
                }
            }
        }

        void clerks(List<Clerk> clerks) {
            for (Clerk c : clerks) {
                if (minute >= c.first && (minute - c.first) % c.every == 0) {
                    turn(c.glass);
                }
            }
        }

        void draws(int z, int k) {
            for (int i = 0; i < told.glasses.size(); i++) {
                if (broken[i]) {
                    continue;
                }
                BigInteger x = BigInteger.valueOf(7919L * z + 6151L * i + 3571L * k + 1);
                int draw = x.multiply(x).mod(BigInteger.valueOf(65521)).intValue() % 1000;
                if (draw < told.breaks) {
                    broken[i] = true;
                    lost += grains[i][0] + grains[i][1];
                    grains[i] = new int[2];
                } else if (draw < told.breaks + told.mice) {
                    for (int bite = 0; bite < 3 && grains[i][upper(i)] > 0; bite++) {
                        grains[i][upper(i)]--;
                        lost++;
                    }
                }
            }
        }

        int stand() {
            int n = 0;
            for (int i = 0; i < told.glasses.size(); i++) {
                n += grains[i][upper(i)] == 0 ? 1 : 0;
            }
            return n;
        }

        void fall() {
            for (int i = 0; i < told.glasses.size(); i++) {
                Glass g = told.glasses.get(i);
                int damp = minute % 3 == 2 ? 0 : g.neck;
                int[] most = {g.neck, damp, g.neck, 2 * damp};
                for (int n = 0; n < most[g.kind] && grains[i][upper(i)] > 0; n++) {
                    grains[i][upper(i)]--;
                    grains[i][1 - upper(i)]++;
                    fallen[i][upper(i)]++;
                }
            }
            minute++;
        }

        World goOn(int t, List<Clerk> clerks) {
            for (int k = 0; k < t; k++) {
                clerks(clerks);
                standing += stand() > 0 ? 1 : 0;
                fall();
            }
            return this;
        }

        int has(int h) {
            int sum = 0;
            for (int i = 0; i < told.glasses.size(); i++) {
                Glass g = told.glasses.get(i);
                int partners = g.kind == 2 ? grains[i][0] / 2 : 0;
                sum += told.partner[i] == h ? partners : 0;
                sum += g.a == h ? grains[i][0] - partners : 0;
                sum += g.b == h ? grains[i][1] : 0;
            }
            return sum;
        }
    }

    private record Kept(World world, List<Count> counts) { }

    private final StringBuilder text = new StringBuilder();
    private Told told = new Told();
    private World world;
    private final Deque<World> undone = new ArrayDeque<>();
    private List<Count> counts = new ArrayList<>();
    private final Deque<Kept> kept = new ArrayDeque<>();

    Model() {
        told.glasses.add(new Glass(0, 0, 1, 2, 20, 0));
        world = fresh();
    }

    private World fresh() {
        World w = new World();
        for (int i = 0; i < told.glasses.size(); i++) {
            w.grains[i] = new int[] {told.glasses.get(i).x, told.glasses.get(i).y};
        }
        return w;
    }

    private static boolean out(int v, int low, int high) {
        return v < low || v > high;
    }

    private boolean noGlass(int i) {
        return out(i, 0, told.glasses.size() - 1);
    }

    private static boolean noHand(int h) {
        return out(h, 0, 5);
    }

    int write(int n, long v) {
        if (out(n, 1, 8)) {
            return BAD;
        }
        if (text.length() + n > 400) {
            return FULL;
        }
        byte[] all = new byte[8];
        for (int k = 0; k < 8; k++) {
            all[7 - k] = (byte) (v >>> (8 * k));
        }
        text.append(new String(all, 8 - n, n, StandardCharsets.ISO_8859_1));
        return text.length();
    }

    int wipe() {
        int was = text.length();
        text.setLength(0);
        return was;
    }

    private static final Pattern ITEM =
            Pattern.compile("([a-z])([0-9]{1,3}(?:,[0-9]{1,3})*);");

    private int read(Told into) {
        Matcher m = ITEM.matcher(text);
        int at = 0;
        while (at < text.length()) {
            m.region(at, text.length());
            if (!m.lookingAt()) {
                return at;
            }
            String[] parts = m.group(2).split(",");
            int[] n = new int[parts.length];
            for (int k = 0; k < n.length; k++) {
                n[k] = Integer.parseInt(parts[k]);
            }
            if (!take(into, m.group(1).charAt(0), n)) {
                return at;
            }
            at = m.end();
        }
        return NONE;
    }

    private static boolean take(Told t, char letter, int[] n) {
        int known = t.glasses.size() - 1;
        switch (letter) {
            case 'g':
                if (n.length != 6 || known == 7 || n[0] > 3 || n[1] > 5 || n[2] > 5
                        || n[3] < 1 || n[3] > 60) {
                    return false;
                }
                t.partner[known + 1] = n[1];
                return t.glasses.add(new Glass(n[0], n[1], n[2], n[3], n[4], n[5]));
            case 'y':
                return n.length == 2 && t.ties.size() < 8 && n[0] <= known && n[1] <= known
                        && n[0] != n[1] && t.ties.add(n);
            case 'c':
                return n.length == 3 && t.clerks.size() < 8 && n[0] <= known && n[1] >= 1
                        && n[1] <= 99 && n[2] <= 99 && t.clerks.add(new Clerk(n[0], n[1], n[2]));
            case 'p':
                if (n.length != 2 || n[0] > known || n[1] > 5) {
                    return false;
                }
                t.partner[n[0]] = n[1];
                return true;
            case 'r':
                if (n.length != 2 || n[0] > 99 || n[1] > 99) {
                    return false;
                }
                t.breaks = n[0];
                t.mice = n[1];
                return true;
            default:
                return false;
        }
    }

    int fault() {
        return read(new Told());
    }

    int lay() {
        Told next = new Told();
        if (read(next) != NONE || next.glasses.isEmpty()) {
            return NO;
        }
        told = next;
        world = fresh();
        undone.clear();
        counts = new ArrayList<>();
        kept.clear();
        return told.glasses.size();
    }

    int glass(int i, int what) {
        if (noGlass(i) || out(what, 0, 5)) {
            return BAD;
        }
        Glass g = told.glasses.get(i);
        return new int[] {world.grains[i][0], world.grains[i][1], world.upper(i), g.kind, g.neck,
            told.partner[i]}[what];
    }

    int has(int h) {
        return noHand(h) ? BAD : world.has(h);
    }

    int minutes(int n) {
        if (out(n, 1, 999)) {
            return BAD;
        }
        if (world.minute + n > 1000000) {
            return NO;
        }
        undone.clear();
        world = world.copy().goOn(n, told.clerks);
        return world.minute;
    }

    private void change() {
        undone.addLast(world);
        if (undone.size() > 8) {
            undone.removeFirst();
        }
        world = world.copy();
    }

    int turn(int i) {
        if (noGlass(i)) {
            return BAD;
        }
        change();
        return world.turn(i);
    }

    int pour(int i, int s, int j, int r, int n) {
        if (noGlass(i) || out(s, 0, 1) || noGlass(j) || out(r, 0, 1) || out(n, 1, 9999)
                || i == j && s == r) {
            return BAD;
        }
        if (world.grains[i][s] < n || world.grains[j][r] + n > 9999) {
            return NO;
        }
        change();
        world.grains[i][s] -= n;
        world.grains[j][r] += n;
        return world.grains[j][r];
    }

    int undo() {
        if (undone.isEmpty()) {
            return NO;
        }
        world = undone.removeLast();
        return undone.size();
    }

    int later(int t, int h) {
        return out(t, 0, 20000) || noHand(h) ? BAD : world.copy().goOn(t, told.clerks).has(h);
    }

    int falls(int t, int i, int s) {
        if (out(t, 0, 20000) || noGlass(i) || out(s, 0, 1)) {
            return BAD;
        }
        return world.copy().goOn(t, told.clerks).fallen[i][s];
    }

    int empty(int t) {
        return out(t, 0, 20000) ? BAD : world.copy().goOn(t, told.clerks).standing;
    }

    private int[] differences(int k, int m, int t) {
        List<Clerk> late = new ArrayList<>(told.clerks);
        Clerk c = late.get(k);
        late.set(k, new Clerk(c.glass, c.every, c.first + m));
        World then = world.copy().goOn(t, late);
        World would = world.copy().goOn(t, told.clerks);
        int[] row = new int[6];
        for (int h = 0; h < 6; h++) {
            row[h] = then.has(h) - would.has(h);
        }
        return row;
    }

    private boolean noDelay(int k, int m, int t) {
        return out(k, 0, told.clerks.size() - 1) || out(m, 0, 99) || out(t, 0, 20000);
    }

    int late(int k, int m, int t, int h) {
        return noDelay(k, m, t) || noHand(h) ? BAD : differences(k, m, t)[h] + 100000;
    }

    int gains(int k, int m, int t, int what) {
        if (noDelay(k, m, t) || out(what, 0, 1)) {
            return BAD;
        }
        int[] row = differences(k, m, t);
        int best = 5;
        for (int h = 5; h >= 0; h--) {
            best = row[h] >= row[best] ? h : best;
        }
        return what == 0 ? best : row[best] + 100000;
    }

    int run(int what) {
        if (out(what, 0, 2)) {
            return BAD;
        }
        World w = world.copy();
        int first = -1;
        int soonest = -1;
        for (int k = 0; ; k++) {
            for (int i = told.glasses.size() - 1; i >= 0; i--) {
                if (w.grains[i][w.upper(i)] == 0 && (soonest < 0 || soonest == k)) {
                    first = i;
                    soonest = k;
                }
            }
            if (w.stand() == told.glasses.size()) {
                return new int[] {first, soonest, k}[what];
            }
            w.fall();
        }
    }

    int round(int l, int n, int i) {
        if (out(l, 1, 3) || out(n, 1, 200) || out(i, -1, l - 1)) {
            return BAD;
        }
        List<int[]> found = new ArrayList<>();
        rows(new int[l], 0, n, found);
        int[] best = Collections.min(found, Comparator.comparingInt((int[] r) -> r[l]));
        return i < 0 ? best[l] : best[i];
    }

    /** All rows in their order, each with how often one stands behind it. */
    private void rows(int[] row, int at, int n, List<int[]> found) {
        if (at == row.length) {
            World w = world.copy();
            int stood = 0;
            for (int k = 0; k < n; k++) {
                w.turn(row[k % row.length]);
                stood += w.stand();
                w.fall();
            }
            int[] full = java.util.Arrays.copyOf(row, row.length + 1);
            full[row.length] = stood;
            found.add(full);
            return;
        }
        for (int g = 0; g < told.glasses.size(); g++) {
            row[at] = g;
            rows(row, at + 1, n, found);
        }
    }

    int counted(int i, int m, int n) {
        if (noGlass(i) || out(m, 0, 20000) || out(n, 0, 9999)) {
            return BAD;
        }
        if (counts.size() == 12) {
            return FULL;
        }
        counts = new ArrayList<>(counts);
        counts.add(new Count(i, m, n));
        return counts.size();
    }

    int stolen(int i, int what) {
        if (noGlass(i) || out(what, 0, 3)) {
            return BAD;
        }
        Glass g = told.glasses.get(i);
        int full = g.x + g.y;
        List<Count> own = new ArrayList<>(counts);
        own.removeIf(c -> c.glass != i);
        int fewest = own.stream().mapToInt(c -> c.grains).min().orElse(full);
        int till = own.stream().filter(c -> c.grains < full).mapToInt(c -> c.minute).min().orElse(NONE);
        int since = own.stream().filter(c -> till != NONE && c.minute < till && c.grains >= full)
                .mapToInt(c -> c.minute).max().orElse(NONE);
        int lies = (int) own.stream().filter(c -> own.stream()
                .anyMatch(d -> d.minute < c.minute && d.grains < c.grains)).count();
        return new int[] {Math.max(0, full - fewest), till, since, lies}[what];
    }

    int split(int r, int h) {
        if (out(r, 0, 9999) || noHand(h)) {
            return BAD;
        }
        int all = 0;
        for (int g = 0; g < 6; g++) {
            all += world.has(g);
        }
        if (all == 0) {
            return NONE;
        }
        int[] gets = new int[6];
        List<int[]> rests = new ArrayList<>();
        int left = r;
        for (int g = 0; g < 6; g++) {
            long part = (long) r * world.has(g);
            gets[g] = (int) (part / all);
            left -= gets[g];
            if (world.has(g) > 0) {
                rests.add(new int[] {g, (int) (part % all)});
            }
        }
        ToIntFunction<int[]> greatest = e -> -e[1];
        rests.sort(Comparator.comparingInt(greatest).thenComparingInt(e -> e[0]));
        for (int k = 0; k < left; k++) {
            gets[rests.get(k)[0]]++;
        }
        return gets[h];
    }

    private World nightly(int z, int t) {
        World w = world.copy();
        for (int k = 0; k < t; k++) {
            w.clerks(told.clerks);
            w.draws(z, k);
            w.fall();
        }
        return w;
    }

    int night(int z, int t, int what) {
        if (out(z, 0, 9999) || out(t, 0, 2000) || out(what, 0, 1)) {
            return BAD;
        }
        World w = nightly(z, t);
        int broken = 0;
        for (boolean b : w.broken) {
            broken += b ? 1 : 0;
        }
        return what == 0 ? w.lost : broken;
    }

    int nightHas(int z, int t, int h) {
        return out(z, 0, 9999) || out(t, 0, 2000) || noHand(h) ? BAD : nightly(z, t).has(h);
    }

    int keep() {
        if (kept.size() == 2) {
            return FULL;
        }
        kept.push(new Kept(world.copy(), counts));
        return kept.size();
    }

    int back() {
        if (kept.isEmpty()) {
            return NO;
        }
        Kept last = kept.pop();
        world = last.world;
        counts = last.counts;
        undone.clear();
        return kept.size();
    }

    int count(int what) {
        int[] all = {told.glasses.size(), told.clerks.size(), told.ties.size(), world.minute,
            undone.size(), counts.size(), text.length(), kept.size()};
        return out(what, 0, 7) ? BAD : all[what];
    }
}
