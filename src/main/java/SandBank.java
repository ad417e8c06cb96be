/**
 * A bank without books: what is owed stands as hour glasses on shelves.
 * Rows are made once, in the constructors, and used again by every call.
 */
public final class SandBank {
    public static final int BAD = -1, NO = -2, FULL = -3, NONE = -4;

    private static final int MOST_BYTES = 400;
    private static final int MOST_ITEMS = 8;
    private static final int HANDS = 6;
    private static final int MOST_GRAINS = 9999;
    private static final int LAST_MINUTE = 1000000;
    private static final int MOST_AHEAD = 20000;
    private static final int MOST_LATE = 99;
    private static final int MOST_KEPT = 2;
    /** What is added to a difference, since answers below 0 are faults. */
    private static final int EVEN = 100000;
    private static final int NOBODY = -1;

    private static final int PLAIN = 0, DAMP = 1, TWO_TOPPED = 2, WIDE = 3;

    private final Text text = new Text();
    private final Reader reader = new Reader();
    /** What was told by the text that is laid. */
    private Plan plan = new Plan();
    /** What the text tells while it is read; takes the plan's place when it is laid. */
    private Plan draft = new Plan();
    private final Shelf shelf = new Shelf();
    /** The copy of the shelf by which calls look ahead. */
    private final Shelf ahead = new Shelf();
    private final Changes changes = new Changes();
    private final Tally tally = new Tally();
    private final Rounds rounds = new Rounds();
    private final Night dark = new Night();
    private final Shelf[] keptShelves = {new Shelf(), new Shelf()};
    /** How many were counted: since counts only grow until one comes back, that tells which. */
    private final int[] keptCounts = new int[MOST_KEPT];
    private int kept = 0;
    private final int[] holdings = new int[HANDS];

    public SandBank() {
        plan.addGlass(PLAIN, 0, 1, 2, 20, 0);
        plan.bindTies();
        shelf.fill(plan);
    }

    // ---- shelves

    public int write(int n, long v) {
        if (!within(n, 1, 8)) {
            return BAD;
        }
        if (text.length + n > MOST_BYTES) {
            return FULL;
        }
        text.append(n, v);
        return text.length;
    }

    public int wipe() {
        int was = text.length;
        text.length = 0;
        return was;
    }

    public int fault() {
        return reader.readText(text, draft);
    }

    public int lay() {
        if (reader.readText(text, draft) != NONE || draft.glasses == 0) {
            return NO;
        }
        Plan old = plan;
        plan = draft;
        draft = old;
        plan.bindTies();
        shelf.fill(plan);
        changes.size = 0;
        tally.size = 0;
        kept = 0;
        return plan.glasses;
    }

    public int glass(int i, int what) {
        if (!isGlass(i)) {
            return BAD;
        }
        switch (what) {
            case 0:
            case 1:
                return shelf.sand[2 * i + what];
            case 2:
                return shelf.upperSide(i);
            case 3:
                return plan.kind[i];
            case 4:
                return plan.neck[i];
            case 5:
                return plan.partner[i];
            default:
                return BAD;
        }
    }

    public int has(int h) {
        return isHand(h) ? shelf.grainsOf(plan, h) : BAD;
    }

    public int minutes(int n) {
        if (!within(n, 1, 999)) {
            return BAD;
        }
        if (shelf.minute + n > LAST_MINUTE) {
            return NO;
        }
        shelf.goOn(plan, n, NOBODY, 0);
        changes.size = 0;
        return shelf.minute;
    }

    public int turn(int i) {
        if (!isGlass(i)) {
            return BAD;
        }
        int turned = plan.turnedWith[i];
        shelf.flip(turned);
        changes.noteTurn(turned);
        return Integer.bitCount(turned);
    }

    public int pour(int i, int s, int j, int r, int n) {
        if (!isGlass(i) || !within(s, 0, 1) || !isGlass(j) || !within(r, 0, 1)
                || !within(n, 1, MOST_GRAINS)) {
            return BAD;
        }
        int from = 2 * i + s;
        int to = 2 * j + r;
        if (from == to) {
            return BAD;
        }
        if (shelf.sand[from] < n || shelf.sand[to] + n > MOST_GRAINS) {
            return NO;
        }
        shelf.move(from, to, n);
        changes.notePouring(from, to, n);
        return shelf.sand[to];
    }

    public int undo() {
        if (changes.size == 0) {
            return NO;
        }
        changes.takeBack(shelf);
        return changes.size;
    }

    // ---- later

    public int later(int t, int h) {
        if (!within(t, 0, MOST_AHEAD) || !isHand(h)) {
            return BAD;
        }
        return lookAhead(t, NOBODY, 0).grainsOf(plan, h);
    }

    public int falls(int t, int i, int s) {
        if (!within(t, 0, MOST_AHEAD) || !isGlass(i) || !within(s, 0, 1)) {
            return BAD;
        }
        ahead.copyFrom(shelf);
        int bulb = 2 * i + s;
        int fallen = 0;
        for (int k = 0; k < t; k++) {
            int before = ahead.sand[bulb];
            ahead.goOn(plan, 1, NOBODY, 0);
            fallen += Math.max(0, before - ahead.sand[bulb]);
        }
        return fallen;
    }

    public int empty(int t) {
        if (!within(t, 0, MOST_AHEAD)) {
            return BAD;
        }
        ahead.copyFrom(shelf);
        int found = 0;
        for (int k = 0; k < t; k++) {
            ahead.letClerksTurn(plan, NOBODY, 0);
            if (ahead.standing(plan) > 0) {
                found++;
            }
            ahead.letSandFall(plan);
        }
        return found;
    }

    public int late(int k, int m, int t, int h) {
        if (!isDelay(k, m, t) || !isHand(h)) {
            return BAD;
        }
        int due = lookAhead(t, NOBODY, 0).grainsOf(plan, h);
        return lookAhead(t, k, m).grainsOf(plan, h) - due + EVEN;
    }

    public int gains(int k, int m, int t, int what) {
        if (!isDelay(k, m, t) || !within(what, 0, 1)) {
            return BAD;
        }
        countHoldings(lookAhead(t, NOBODY, 0));
        lookAhead(t, k, m);
        int winner = 0;
        int most = ahead.grainsOf(plan, 0) - holdings[0];
        for (int h = 1; h < HANDS; h++) {
            int more = ahead.grainsOf(plan, h) - holdings[h];
            if (more > most) {
                winner = h;
                most = more;
            }
        }
        return what == 0 ? winner : most + EVEN;
    }

    public int run(int what) {
        if (!within(what, 0, 2)) {
            return BAD;
        }
        int first = 0;
        int soonest = shelf.minutesLeft(plan, 0);
        int longest = soonest;
        for (int i = 1; i < plan.glasses; i++) {
            int left = shelf.minutesLeft(plan, i);
            if (left < soonest) {
                first = i;
                soonest = left;
            }
            longest = Math.max(longest, left);
        }
        if (what == 0) {
            return first;
        }
        return what == 1 ? soonest : longest;
    }

    public int round(int l, int n, int i) {
        if (!within(l, 1, Rounds.LONGEST) || !within(n, 1, Rounds.MOST_MINUTES)
                || !within(i, -1, l - 1)) {
            return BAD;
        }
        rounds.search(plan, shelf, ahead, l, n);
        return i < 0 ? rounds.fewest : rounds.best[i];
    }

    // ---- counts

    public int counted(int i, int m, int n) {
        if (!isGlass(i) || !within(m, 0, MOST_AHEAD) || !within(n, 0, MOST_GRAINS)) {
            return BAD;
        }
        if (tally.size >= Tally.MOST) {
            return FULL;
        }
        tally.note(i, m, n);
        return tally.size;
    }

    public int stolen(int i, int what) {
        if (!isGlass(i)) {
            return BAD;
        }
        int told = plan.told[2 * i] + plan.told[2 * i + 1];
        switch (what) {
            case 0:
                return tally.missing(i, told);
            case 1:
                return tally.till(i, told);
            case 2:
                return tally.since(i, told);
            case 3:
                return tally.falseOnes(i);
            default:
                return BAD;
        }
    }

    public int split(int r, int h) {
        if (!within(r, 0, MOST_GRAINS) || !isHand(h)) {
            return BAD;
        }
        int all = countHoldings(shelf);
        if (all <= 0) {
            return NONE;
        }
        if (holdings[h] == 0) {
            return 0;
        }
        int left = r;
        int served = 0;
        for (int g = 0; g < HANDS; g++) {
            left -= r * holdings[g] / all;
            if (comesFirst(g, h, r, all)) {
                served++;
            }
        }
        return r * holdings[h] / all + (served < left ? 1 : 0);
    }

    // ---- nights

    public int night(int z, int t, int what) {
        if (!isNight(z, t) || !within(what, 0, 1)) {
            return BAD;
        }
        passNight(z, t);
        return what == 0 ? dark.lost : dark.broken;
    }

    public int nightHas(int z, int t, int h) {
        if (!isNight(z, t) || !isHand(h)) {
            return BAD;
        }
        passNight(z, t);
        return ahead.grainsOf(plan, h);
    }

    public int keep() {
        if (kept >= MOST_KEPT) {
            return FULL;
        }
        keptShelves[kept].copyFrom(shelf);
        keptCounts[kept] = tally.size;
        kept++;
        return kept;
    }

    public int back() {
        if (kept <= 0) {
            return NO;
        }
        kept--;
        shelf.copyFrom(keptShelves[kept]);
        tally.size = keptCounts[kept];
        changes.size = 0;
        return kept;
    }

    public int count(int what) {
        switch (what) {
            case 0:
                return plan.glasses;
            case 1:
                return plan.clerks;
            case 2:
                return plan.ties;
            case 3:
                return shelf.minute;
            case 4:
                return changes.size;
            case 5:
                return tally.size;
            case 6:
                return text.length;
            case 7:
                return kept;
            default:
                return BAD;
        }
    }

    private static boolean within(int value, int low, int high) {
        return value >= low && value <= high;
    }

    private static boolean isHand(int h) {
        return within(h, 0, HANDS - 1);
    }

    private boolean isGlass(int i) {
        return within(i, 0, plan.glasses - 1);
    }

    private boolean isDelay(int k, int m, int t) {
        return within(k, 0, plan.clerks - 1) && within(m, 0, MOST_LATE) && within(t, 0, MOST_AHEAD);
    }

    private static boolean isNight(int z, int t) {
        return within(z, 0, 9999) && within(t, 0, 2000);
    }

    private Shelf lookAhead(int t, int lateClerk, int delay) {
        ahead.copyFrom(shelf);
        ahead.goOn(plan, t, lateClerk, delay);
        return ahead;
    }

    private void passNight(int z, int t) {
        ahead.copyFrom(shelf);
        dark.pass(plan, ahead, z, t);
    }

    private int countHoldings(Shelf of) {
        int all = 0;
        for (int h = 0; h < HANDS; h++) {
            holdings[h] = of.grainsOf(plan, h);
            all += holdings[h];
        }
        return all;
    }

    /** Whether hand g comes ahead of hand h when what is left of r grains is given away. */
    private boolean comesFirst(int g, int h, int r, int all) {
        if (all <= 0 || holdings[g] == 0) {
            return false;
        }
        int rest = r * holdings[g] % all;
        int other = r * holdings[h] % all;
        return rest > other || rest == other && g < h;
    }

    /** The bytes that were written. */
    private static final class Text {
        private final byte[] bytes = new byte[MOST_BYTES];
        private int length = 0;

        /** Takes the n lowest bytes of v, the highest of them first. */
        void append(int n, long v) {
            for (int left = n - 1; left >= 0 && length < MOST_BYTES; left--) {
                bytes[length] = (byte) (v >> (8 * left));
                length++;
            }
        }

        /** The byte at a place, or -1 behind the last one. */
        int at(int place) {
            return within(place, 0, length - 1) ? bytes[place] & 255 : -1;
        }
    }

    /** Reads a text item by item into a plan. */
    private static final class Reader {
        private static final int MOST_NUMBERS = 6;
        private final int[] numbers = new int[MOST_NUMBERS];
        private int place = 0;

        /** The place of the first item that is not so, or NONE. */
        int readText(Text text, Plan plan) {
            plan.clear();
            place = 0;
            for (int items = 0; items < MOST_BYTES && place < text.length; items++) {
                int start = place;
                if (!readItem(text, plan)) {
                    return start;
                }
            }
            return NONE;
        }

        private boolean readItem(Text text, Plan plan) {
            int letter = text.at(place);
            int wanted = numbersOf(letter);
            if (wanted == 0) {
                return false;
            }
            place++;
            for (int k = 0; k < wanted && k < MOST_NUMBERS; k++) {
                if (!readNumber(text, k)) {
                    return false;
                }
                if (text.at(place) != (k == wanted - 1 ? ';' : ',')) {
                    return false;
                }
                place++;
            }
            return addItem(letter, plan);
        }

        /** How many numbers stand behind a letter; 0 for one that begins no item. */
        private static int numbersOf(int letter) {
            switch (letter) {
                case 'g':
                    return 6;
                case 'c':
                    return 3;
                case 'y':
                case 'p':
                case 'r':
                    return 2;
                default:
                    return 0;
            }
        }

        /** A fourth figure is left standing, where no comma or semicolon is then found. */
        private boolean readNumber(Text text, int k) {
            int value = 0;
            int figures = 0;
            while (figures < 3 && within(text.at(place), '0', '9')) {
                value = 10 * value + text.at(place) - '0';
                place++;
                figures++;
            }
            numbers[k] = value;
            return figures > 0;
        }

        private boolean addItem(int letter, Plan plan) {
            switch (letter) {
                case 'g':
                    return plan.addGlass(numbers[0], numbers[1], numbers[2],
                            numbers[3], numbers[4], numbers[5]);
                case 'y':
                    return plan.addTie(numbers[0], numbers[1]);
                case 'c':
                    return plan.addClerk(numbers[0], numbers[1], numbers[2]);
                case 'p':
                    return plan.setPartner(numbers[0], numbers[1]);
                case 'r':
                    return plan.setRisks(numbers[0], numbers[1]);
                default:
                    return false;
            }
        }
    }

    /** What a text tells. Bulb s of glass i (0 A's, 1 B's) is number 2 i + s in rows of bulbs. */
    private static final class Plan {
        private int glasses = 0;
        private final int[] kind = new int[MOST_ITEMS];
        private final int[] neck = new int[MOST_ITEMS];
        private final int[] partner = new int[MOST_ITEMS];
        private final int[] owner = new int[2 * MOST_ITEMS];
        private final int[] told = new int[2 * MOST_ITEMS];
        /** How many grains can fall in a minute, and in one in which damp sand sticks. */
        private final int[] flow = new int[MOST_ITEMS];
        private final int[] stickyFlow = new int[MOST_ITEMS];
        private int ties = 0;
        /** Sets of glasses, a bit each: those tied to a glass, and all that turn with it. */
        private final int[] tiedTo = new int[MOST_ITEMS];
        private final int[] turnedWith = new int[MOST_ITEMS];
        private int clerks = 0;
        private final int[] clerkGlass = new int[MOST_ITEMS];
        private final int[] clerkEvery = new int[MOST_ITEMS];
        private final int[] clerkFirst = new int[MOST_ITEMS];
        private int breaks = 0;
        private int mice = 0;

        void clear() {
            glasses = 0;
            ties = 0;
            clerks = 0;
            breaks = 0;
            mice = 0;
        }

        private boolean isTold(int i) {
            return within(i, 0, glasses - 1);
        }

        boolean addGlass(int k, int a, int b, int n, int x, int y) {
            if (glasses >= MOST_ITEMS || !within(k, PLAIN, WIDE) || !isHand(a) || !isHand(b)
                    || !within(n, 1, 60) || !within(x, 0, 999) || !within(y, 0, 999)) {
                return false;
            }
            int i = glasses;
            kind[i] = k;
            neck[i] = n;
            partner[i] = a;
            owner[2 * i] = a;
            owner[2 * i + 1] = b;
            told[2 * i] = x;
            told[2 * i + 1] = y;
            flow[i] = k == WIDE ? 2 * n : n;
            stickyFlow[i] = k == DAMP || k == WIDE ? 0 : n;
            tiedTo[i] = 0;
            glasses++;
            return true;
        }

        boolean addTie(int i, int j) {
            if (ties >= MOST_ITEMS || !isTold(i) || !isTold(j) || i == j) {
                return false;
            }
            tiedTo[i] |= 1 << j;
            ties++;
            return true;
        }

        boolean addClerk(int i, int every, int first) {
            if (clerks >= MOST_ITEMS || !isTold(i) || !within(every, 1, 99)
                    || !within(first, 0, 99)) {
                return false;
            }
            clerkGlass[clerks] = i;
            clerkEvery[clerks] = every;
            clerkFirst[clerks] = first;
            clerks++;
            return true;
        }

        boolean setPartner(int i, int h) {
            if (!isTold(i) || !isHand(h)) {
                return false;
            }
            partner[i] = h;
            return true;
        }

        boolean setRisks(int broken, int mouse) {
            if (!within(broken, 0, 99) || !within(mouse, 0, 99)) {
                return false;
            }
            breaks = broken;
            mice = mouse;
            return true;
        }

        /** Finds for each glass all that turn with it; told once, since ties do not change. */
        void bindTies() {
            for (int i = 0; i < glasses; i++) {
                int set = 1 << i;
                // A chain of ties through all the glasses is one shorter than their number.
                for (int step = 1; step < glasses; step++) {
                    set |= tiedToSome(set);
                }
                turnedWith[i] = set;
            }
        }

        private int tiedToSome(int set) {
            int found = 0;
            for (int i = 0; i < glasses; i++) {
                if ((set >> i & 1) == 1) {
                    found |= tiedTo[i];
                }
            }
            return found;
        }
    }

    /** Glasses with their sand in some minute: the bank's own, a kept one, or one to look ahead. */
    private static final class Shelf {
        /** In a minute whose number modulo this is one less than it, damp sand sticks. */
        private static final int STICKY_EVERY = 3;
        /** Far above the minutes in which all the sand that a text can tell runs out. */
        private static final int LONGEST_RUN = 100000;
        private final int[] sand = new int[2 * MOST_ITEMS];
        /** A bit for each glass: 0 A's bulb is up, 1 B's. */
        private int up = 0;
        private int minute = 0;

        void fill(Plan plan) {
            System.arraycopy(plan.told, 0, sand, 0, sand.length);
            up = 0;
            minute = 0;
        }

        void copyFrom(Shelf other) {
            System.arraycopy(other.sand, 0, sand, 0, sand.length);
            up = other.up;
            minute = other.minute;
        }

        int upperSide(int i) {
            return up >> i & 1;
        }

        int upperBulb(int i) {
            return 2 * i + upperSide(i);
        }

        void flip(int set) {
            up ^= set;
        }

        void move(int from, int to, int grains) {
            sand[from] -= grains;
            sand[to] += grains;
        }

        /** Minutes go by; the late clerk, if there is one, begins by the delay later than told. */
        void goOn(Plan plan, int t, int lateClerk, int delay) {
            for (int k = 0; k < t; k++) {
                letClerksTurn(plan, lateClerk, delay);
                letSandFall(plan);
            }
        }

        void letClerksTurn(Plan plan, int lateClerk, int delay) {
            for (int k = 0; k < plan.clerks; k++) {
                int since = minute - plan.clerkFirst[k] - (k == lateClerk ? delay : 0);
                int every = plan.clerkEvery[k];
                if (since >= 0 && every > 0 && since % every == 0) {
                    flip(plan.turnedWith[plan.clerkGlass[k]]);
                }
            }
        }

        /** Written without calls of its own: the longest of answers goes through it most often. */
        void letSandFall(Plan plan) {
            int[] most = flowIn(plan, minute);
            for (int i = 0; i < plan.glasses; i++) {
                int upper = 2 * i + (up >> i & 1);
                int grains = Math.min(sand[upper], most[i]);
                sand[upper] -= grains;
                sand[upper ^ 1] += grains;
            }
            minute++;
        }

        private static int[] flowIn(Plan plan, int minute) {
            return minute % STICKY_EVERY == STICKY_EVERY - 1 ? plan.stickyFlow : plan.flow;
        }

        int standing(Plan plan) {
            int found = 0;
            for (int i = 0; i < plan.glasses; i++) {
                if (sand[upperBulb(i)] == 0) {
                    found++;
                }
            }
            return found;
        }

        /** Behind how many minutes the glass stands, if nobody turns it. */
        int minutesLeft(Plan plan, int i) {
            int grains = sand[upperBulb(i)];
            int passed = 0;
            while (grains > 0 && passed < LONGEST_RUN) {
                grains -= flowIn(plan, minute + passed)[i];
                passed++;
            }
            return passed;
        }

        int grainsOf(Plan plan, int h) {
            int sum = 0;
            for (int i = 0; i < plan.glasses; i++) {
                int top = sand[2 * i];
                int half = plan.kind[i] == TWO_TOPPED ? top / 2 : 0;
                if (plan.owner[2 * i] == h) {
                    sum += top - half;
                }
                if (plan.partner[i] == h) {
                    sum += half;
                }
                if (plan.owner[2 * i + 1] == h) {
                    sum += sand[2 * i + 1];
                }
            }
            return sum;
        }
    }

    /** The turns and pourings that can be undone, the latest last. */
    private static final class Changes {
        private static final int MOST = 8;
        private int size = 0;
        /** The set of glasses that were turned; 0 of a pouring. */
        private final int[] turned = new int[MOST];
        private final int[] from = new int[MOST];
        private final int[] to = new int[MOST];
        private final int[] grains = new int[MOST];

        void noteTurn(int set) {
            makeRoom();
            turned[size] = set;
            size++;
        }

        void notePouring(int source, int target, int n) {
            makeRoom();
            turned[size] = 0;
            from[size] = source;
            to[size] = target;
            grains[size] = n;
            size++;
        }

        /** The oldest is forgotten if no more can be known. */
        private void makeRoom() {
            if (size < MOST) {
                return;
            }
            for (int k = 1; k < MOST; k++) {
                turned[k - 1] = turned[k];
                from[k - 1] = from[k];
                to[k - 1] = to[k];
                grains[k - 1] = grains[k];
            }
            size = MOST - 1;
        }

        void takeBack(Shelf shelf) {
            if (size <= 0) {
                return;
            }
            size--;
            if (turned[size] != 0) {
                shelf.flip(turned[size]);
            } else {
                shelf.move(to[size], from[size], grains[size]);
            }
        }
    }

    /** What was counted: which glass, in which minute, how many grains. */
    private static final class Tally {
        private static final int MOST = 12;
        private int size = 0;
        private final int[] glass = new int[MOST];
        private final int[] minute = new int[MOST];
        private final int[] grains = new int[MOST];

        void note(int i, int m, int n) {
            if (size >= MOST) {
                return;
            }
            glass[size] = i;
            minute[size] = m;
            grains[size] = n;
            size++;
        }

        int missing(int i, int told) {
            int most = 0;
            for (int k = 0; k < size; k++) {
                if (glass[k] == i) {
                    most = Math.max(most, told - grains[k]);
                }
            }
            return most;
        }

        /** The first minute in which fewer than told were counted, or NONE. */
        int till(int i, int told) {
            int first = NONE;
            for (int k = 0; k < size; k++) {
                if (glass[k] == i && grains[k] < told && (first == NONE || minute[k] < first)) {
                    first = minute[k];
                }
            }
            return first;
        }

        /**
         * The last minute ahead of the first loss in which no fewer were counted, or NONE:
         * without a loss no minute is below its end.
         */
        int since(int i, int told) {
            int end = till(i, told);
            int last = NONE;
            for (int k = 0; k < size; k++) {
                if (glass[k] == i && grains[k] >= told && minute[k] < end) {
                    last = Math.max(last, minute[k]);
                }
            }
            return last;
        }

        int falseOnes(int i) {
            int found = 0;
            for (int k = 0; k < size; k++) {
                if (glass[k] == i && exceedsEarlier(k)) {
                    found++;
                }
            }
            return found;
        }

        private boolean exceedsEarlier(int k) {
            for (int e = 0; e < size; e++) {
                if (glass[e] == glass[k] && minute[e] < minute[k] && grains[e] < grains[k]) {
                    return true;
                }
            }
            return false;
        }
    }

    /** The search for the round by which the fewest glasses stand. */
    private static final class Rounds {
        private static final int LONGEST = 3;
        private static final int MOST_MINUTES = 200;
        /** More than can stand, each glass in each minute. */
        private static final int TOO_MANY = MOST_ITEMS * MOST_MINUTES + 1;
        private final int[] row = new int[LONGEST];
        private final int[] best = new int[LONGEST];
        private int fewest = 0;

        /** Rows are tried from the first on, so that of several the first stays. */
        void search(Plan plan, Shelf now, Shelf ahead, int l, int n) {
            int rows = 1;
            for (int k = 0; k < LONGEST; k++) {
                row[k] = 0;
                rows *= k < l ? plan.glasses : 1;
            }
            fewest = TOO_MANY;
            for (int tried = 0; tried < rows; tried++) {
                ahead.copyFrom(now);
                int stood = stoodBy(plan, ahead, l, n);
                if (stood < fewest) {
                    fewest = stood;
                    System.arraycopy(row, 0, best, 0, LONGEST);
                }
                stepRow(plan.glasses, l);
            }
        }

        /** How often one stands; cut short once it is no better than the best row. */
        private int stoodBy(Plan plan, Shelf ahead, int l, int n) {
            int stood = 0;
            int next = 0;
            for (int k = 0; k < n && stood < fewest; k++) {
                ahead.flip(plan.turnedWith[row[next]]);
                next = next + 1 < l ? next + 1 : 0;
                stood += ahead.standing(plan);
                ahead.letSandFall(plan);
            }
            return stood;
        }

        private void stepRow(int glasses, int l) {
            for (int k = Math.min(l, LONGEST) - 1; k >= 0; k--) {
                row[k]++;
                if (row[k] < glasses) {
                    return;
                }
                row[k] = 0;
            }
        }
    }

    /** A night by draws, in which glasses break and mice come. */
    private static final class Night {
        private static final int BITE = 3;
        private int lost = 0;
        private int broken = 0;
        /** A bit for each glass that is broken. */
        private int shards = 0;

        void pass(Plan plan, Shelf shelf, int z, int t) {
            lost = 0;
            broken = 0;
            shards = 0;
            for (int k = 0; k < t; k++) {
                shelf.letClerksTurn(plan, NOBODY, 0);
                for (int i = 0; i < plan.glasses; i++) {
                    if ((shards >> i & 1) == 0) {
                        befall(plan, shelf, i, draw(z, i, k));
                    }
                }
                shelf.letSandFall(plan);
            }
        }

        private void befall(Plan plan, Shelf shelf, int i, int drawn) {
            if (drawn < plan.breaks) {
                shards |= 1 << i;
                broken++;
                lose(shelf, 2 * i, shelf.sand[2 * i]);
                lose(shelf, 2 * i + 1, shelf.sand[2 * i + 1]);
            } else if (drawn < plan.breaks + plan.mice) {
                int upper = shelf.upperBulb(i);
                lose(shelf, upper, Math.min(BITE, shelf.sand[upper]));
            }
        }

        private void lose(Shelf shelf, int bulb, int grains) {
            shelf.sand[bulb] -= grains;
            lost += grains;
        }

        private static int draw(int z, int i, int k) {
            long x = 7919L * z + 6151L * i + 3571L * k + 1;
            return (int) (x * x % 65521 % 1000);
        }
    }
}
