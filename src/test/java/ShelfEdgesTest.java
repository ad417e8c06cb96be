/** The edges of promises 6 to 11: glasses, hands, minutes, turns, pourings, and those undone. */
public final class ShelfEdgesTest {
    private static final int NO = Edges.NO, BAD = Edges.BAD;
    private static final String FIRST = "g0,0,1,2,20,0;";
    private static final String FILLED = "g0,0,1,1,999,999;";

    private static final Edges edges = new Edges();

    public static void main(String[] args) {
        edges.run(ShelfEdgesTest.class, 6, 11);
    }

    /** A bank with something to undo and something kept, which a refused call must not lose. */
    private static Bank busy(String text) {
        Bank bank = Bank.laid(text);
        bank.counted(0, 3, 4);
        bank.keep();
        bank.turn(0);
        bank.pour(0, 0, 0, 1, 1);
        return bank;
    }

    /** A glass whose A's bulb holds some grains more than a text can tell. */
    private static Bank heaped(int grains) {
        Bank bank = Bank.laid("g0,0,1,1,0,0;" + FILLED.repeat(7));
        int there = 0;
        for (int bulb = 2; there < grains; bulb++) {
            int n = Math.min(999, grains - there);
            there += n;
            edges.due("heaped", bank.pour(bulb / 2, bulb % 2, 0, 0, n), there);
        }
        return bank;
    }

    // ---- 6 glass

    static void promise06GlassOfSuchAsThereAre() {
        edges.range("of one, glass", busy(FIRST), (b, i) -> b.glass(i, 4), 0, 2, 0, 2);
        String eight = "g0,0,1,3,20,0;" + FIRST.repeat(6) + "g0,0,1,9,20,0;";
        edges.range("of eight, glass", busy(eight), (b, i) -> b.glass(i, 4), 0, 3, 7, 9);
    }

    static void promise06GlassAnswersWhatIsTold() {
        Bank bank = busy("g1,4,3,60,20,7;p0,5;");
        edges.range("what", bank, (b, what) -> b.glass(0, what), 0, 19, 5, 5);
        edges.dueRow("all of it", Look.glass(bank, 0), 19, 8, 1, 1, 60, 5);
        edges.refused("neither", bank, b -> b.glass(1, 6), BAD);
    }

    static void promise06GlassThatIsUpIsABulb() {
        Bank bank = new Bank();
        edges.due("A's at first", bank.glass(0, 2), 0);
        bank.turn(0);
        edges.due("B's", bank.glass(0, 2), 1);
        bank.turn(0);
        edges.due("A's again", bank.glass(0, 2), 0);
    }

    // ---- 7 has

    static void promise07HasOfHands0To5() {
        Bank bank = busy("g0,0,5,2,20,9;");
        edges.range("hand", bank, Bank::has, 0, 19, 5, 10);
    }

    static void promise07HasOneHalfCut() {
        int[][] halves = {{0, 0, 0}, {1, 1, 0}, {2, 1, 1}, {3, 2, 1}, {998, 499, 499}, {999, 500, 499}};
        for (int[] half : halves) {
            Bank bank = Bank.laid("g2,0,1,2," + half[0] + ",7;p0,4;");
            edges.dueRow("of " + half[0], Look.has(bank), half[1], 7, 0, 0, half[2], 0);
        }
        Bank most = Bank.laid("g2,0,1,1,0,0;" + FILLED.repeat(7) + "p0,4;");
        for (int i = 1; i <= 7; i++) {
            most.pour(i, 0, 0, 0, 999);
        }
        edges.due("of 6993, A's", most.has(0), 3497);
        edges.due("of 6993, the partner's", most.has(4), 3496);
    }

    static void promise07HasNoHalfOfOtherKinds() {
        for (int kind = 0; kind <= 3; kind++) {
            Bank bank = Bank.laid("g" + kind + ",0,1,2,21,7;p0,4;");
            int half = kind == 2 ? 10 : 0;
            edges.dueRow("kind " + kind, Look.has(bank), 21 - half, 7, 0, 0, half, 0);
        }
    }

    static void promise07HasNoHalfOfBsBulb() {
        Bank bank = Bank.laid("g2,0,1,5,3,21;p0,4;");
        edges.dueRow("A's up", Look.has(bank), 2, 21, 0, 0, 1, 0);
        bank.turn(0);
        edges.dueRow("B's up", Look.has(bank), 2, 21, 0, 0, 1, 0);
    }

    static void promise07HasPartnersOfAnyHand() {
        edges.dueRow("A without", Look.has(Bank.laid("g2,0,1,5,21,3;")), 21, 3, 0, 0, 0, 0);
        edges.dueRow("A told", Look.has(Bank.laid("g2,0,1,5,21,3;p0,0;")), 21, 3, 0, 0, 0, 0);
        edges.dueRow("B", Look.has(Bank.laid("g2,0,1,5,21,3;p0,1;")), 11, 13, 0, 0, 0, 0);
        edges.dueRow("the last hand", Look.has(Bank.laid("g2,0,1,5,21,3;p0,5;")), 11, 3, 0, 0, 0, 10);
        edges.dueRow("A and B one hand", Look.has(Bank.laid("g2,3,3,5,21,3;p0,2;")), 0, 0, 10, 14, 0, 0);
    }

    static void promise07HasTheGrainsOfAllItsBulbs() {
        edges.dueRow("one hand has all", Look.has(Bank.laid("g0,5,5,1,999,999;".repeat(8))),
                0, 0, 0, 0, 0, 15984);
        edges.dueRow("none", Look.has(Bank.laid("g0,5,5,1,0,0;")), 0, 0, 0, 0, 0, 0);
    }

    // ---- 8 minutes

    static void promise08MinutesAre1To999() {
        edges.range("minutes", busy(FIRST), Bank::minutes, 1, 1, 999, 999);
        Bank later = busy(FIRST);
        later.minutes(5);
        later.turn(0);
        edges.range("minutes then", later, Bank::minutes, 1, 6, 999, 1004);
    }

    /**
     * No 512 calls come to minute 1000000, so that no promised call is ever refused by it; this
     * bank is used for more, and is therefore none whose calls are counted.
     */
    static void promise08MinutesUpTo1000000() {
        SandBank bank = new SandBank();
        for (int k = 0; k < 1001; k++) {
            bank.minutes(998);
        }
        edges.due("far on", bank.minutes(1), 998999);
        edges.due("two are left", bank.minutes(999), 999998);
        bank.turn(0);
        edges.due("above", bank.minutes(3), NO);
        edges.due("far above", bank.minutes(999), NO);
        edges.due("BAD ahead of NO", bank.minutes(1000), BAD);
        edges.due("the minute stays", bank.count(3), 999998);
        edges.due("what can be undone stays", bank.count(4), 1);
        edges.due("the shelf stays", bank.has(1), 20);
        edges.due("one is left", bank.minutes(1), 999999);
        edges.due("above by one", bank.minutes(2), NO);
        edges.due("the last", bank.minutes(1), 1000000);
        edges.due("behind the last", bank.minutes(1), NO);
        edges.due("it stays", bank.count(3), 1000000);
        edges.due("later all the same", bank.later(20000, 0), 20);
    }

    /** What is left above and what has fallen behind one minute, of some grains. */
    private static void falls(int kind, int neck, int grains, int fallen) {
        Bank bank = Bank.laid("g" + kind + ",0,1," + neck + "," + grains + ",5;");
        bank.minutes(1);
        edges.dueRow("kind " + kind + " neck " + neck + " of " + grains, Look.has(bank),
                grains - fallen, 5 + fallen, 0, 0, 0, 0);
    }

    static void promise08MinutesNoMoreFallThanThereAre() {
        for (int kind = 0; kind <= 3; kind++) {
            for (int neck : new int[] {1, 7, 60}) {
                int most = kind == 3 ? 2 * neck : neck;
                falls(kind, neck, 0, 0);
                falls(kind, neck, most - 1, most - 1);
                falls(kind, neck, most, most);
                falls(kind, neck, most + 1, most);
                falls(kind, neck, 999, most);
            }
        }
    }

    static void promise08MinutesFallFromTheUpperBulb() {
        Bank bank = Bank.laid("g0,0,1,3,4,4;");
        bank.turn(0);
        bank.minutes(1);
        edges.dueRow("one", Look.has(bank), 7, 1, 0, 0, 0, 0);
        bank.minutes(1);
        edges.dueRow("two", Look.has(bank), 8, 0, 0, 0, 0, 0);
        bank.minutes(1);
        edges.dueRow("three", Look.has(bank), 8, 0, 0, 0, 0, 0);
    }

    static void promise08MinutesWithDampSandModulo3() {
        int[] damp = {4, 8, 8, 12, 16, 16, 20, 24, 24, 28};
        for (int kind = 0; kind <= 3; kind++) {
            Bank bank = Bank.laid("g" + kind + ",0,1,4,999,0;");
            for (int m = 0; m < damp.length; m++) {
                bank.minutes(1);
                int fallen = kind == 1 ? damp[m] : kind == 3 ? 2 * damp[m] : 4 * (m + 1);
                edges.due("kind " + kind + " behind minute " + m, bank.has(1), fallen);
            }
        }
        Bank far = Bank.laid("g1,0,1,1,999,0;");
        far.minutes(998);
        edges.due("ahead of minute 998", far.has(1), 666);
        far.minutes(1);
        edges.due("none in minute 998", far.has(1), 666);
        far.minutes(1);
        edges.due("one in minute 999", far.has(1), 667);
    }

    /** Which bulb is up behind minute m. */
    private static int upBehind(String clerks, int m) {
        Bank bank = Bank.laid(FIRST + clerks);
        bank.minutes(m + 1);
        return bank.glass(0, 2);
    }

    static void promise08MinutesInWhichAClerkBegins() {
        edges.due("0, in 0", upBehind("c0,99,0;", 0), 1);
        edges.due("1, in 0", upBehind("c0,99,1;", 0), 0);
        edges.due("1, in 1", upBehind("c0,99,1;", 1), 1);
        edges.due("1, in 2", upBehind("c0,99,1;", 2), 1);
        edges.due("99, in 98", upBehind("c0,99,99;", 98), 0);
        edges.due("99, in 99", upBehind("c0,99,99;", 99), 1);
        edges.due("5 each 1, in 4", upBehind("c0,1,5;", 4), 0);
        edges.due("5 each 1, in 5", upBehind("c0,1,5;", 5), 1);
        edges.due("99 each 2, in 97", upBehind("c0,2,99;", 97), 0);
    }

    static void promise08MinutesInWhichAClerkTurnsAgain() {
        edges.due("each 1, in 1", upBehind("c0,1,0;", 1), 0);
        edges.due("each 1, in 2", upBehind("c0,1,0;", 2), 1);
        edges.due("each 99, in 98", upBehind("c0,99,0;", 98), 1);
        edges.due("each 99, in 99", upBehind("c0,99,0;", 99), 0);
        edges.due("each 99, in 100", upBehind("c0,99,0;", 100), 0);
        edges.due("each 99, in 197", upBehind("c0,99,0;", 197), 0);
        edges.due("each 99, in 198", upBehind("c0,99,0;", 198), 1);
        edges.due("99 each 99, in 197", upBehind("c0,99,99;", 197), 1);
        edges.due("99 each 99, in 198", upBehind("c0,99,99;", 198), 0);
        edges.due("1 each 2, in 2", upBehind("c0,2,1;", 2), 1);
        edges.due("1 each 2, in 3", upBehind("c0,2,1;", 3), 0);
    }

    static void promise08MinutesOfEightClerks() {
        edges.due("eight", upBehind("c0,9,0;".repeat(8), 0), 0);
        edges.due("seven", upBehind("c0,9,0;".repeat(7) + "c0,9,1;", 0), 1);
        edges.due("seven, and one", upBehind("c0,9,0;".repeat(7) + "c0,9,1;", 1), 0);
    }

    /** What is turned in a minute falls in it from the bulb that is up then. */
    static void promise08MinutesClerksAreAheadOfTheSand() {
        Bank bank = Bank.laid("g0,0,1,2,20,0;c0,99,0;");
        bank.minutes(1);
        edges.dueRow("nothing is up", Look.has(bank), 20, 0, 0, 0, 0, 0);
        Bank full = Bank.laid("g0,0,1,2,0,20;c0,99,0;");
        full.minutes(1);
        edges.dueRow("all is up", Look.has(full), 2, 18, 0, 0, 0, 0);
    }

    static void promise08MinutesOneByOneAndAtOnce() {
        String text = "g0,0,1,3,99,0;g1,1,2,5,50,60;g2,3,4,7,200,1;g3,5,0,9,300,300;"
                + "y0,1;y1,2;c0,3,1;c3,7,0;p2,5;";
        Bank once = Bank.laid(text);
        once.minutes(60);
        Bank each = Bank.laid(text);
        for (int m = 1; m <= 60; m++) {
            edges.due("one more", each.minutes(1), m);
        }
        edges.same("at once", Look.all(once), Look.all(each));
    }

    // ---- 9 turn

    static void promise09TurnOfSuchAsThereAre() {
        edges.range("of one, glass", busy(FIRST), Bank::turn, 0, 1, 0, 1);
        edges.range("of eight, glass", busy(FIRST.repeat(8) + "y0,7;"), Bank::turn, 0, 2, 7, 1);
    }

    static void promise09TurnOfAllThatAreTied() {
        Bank chain = Bank.laid(FIRST.repeat(8) + "y6,7;y5,6;y4,5;y3,4;y2,3;y1,2;y0,1;");
        for (int i = 7; i >= 0; i--) {
            edges.due("of a chain from " + i, chain.twin().turn(i), 8 - i);
        }
        chain.turn(0);
        for (int i = 0; i < 8; i++) {
            edges.due("turned " + i, chain.glass(i, 2), 1);
        }
        Bank down = Bank.laid(FIRST.repeat(8) + "y1,0;y2,1;y3,2;y4,3;y5,4;y6,5;y7,6;");
        edges.due("of a chain down", down.turn(7), 8);
        edges.due("its end", down.glass(0, 2), 1);
    }

    static void promise09TurnNotWhatItIsTiedTo() {
        Bank bank = Bank.laid(FIRST.repeat(2) + "y0,1;");
        edges.due("the tied one", bank.turn(1), 1);
        edges.due("the other stays", bank.glass(0, 2), 0);
    }

    static void promise09TurnEachOnce() {
        Bank ring = Bank.laid(FIRST.repeat(8) + "y0,1;y1,2;y2,3;y3,4;y4,5;y5,6;y6,7;y7,0;");
        for (int i = 0; i < 8; i++) {
            edges.due("of a ring from " + i, ring.turn(i), 8);
            edges.due("once " + i, ring.glass(0, 2), 1 - i % 2);
        }
        Bank ways = Bank.laid(FIRST.repeat(4) + "y0,1;y0,2;y1,3;y2,3;y0,3;y0,3;");
        edges.due("by several ways", ways.turn(0), 4);
        edges.due("once", ways.glass(3, 2), 1);
        Bank both = Bank.laid(FIRST.repeat(2) + "y0,1;y1,0;");
        edges.due("to one another", both.turn(1), 2);
        edges.due("the first, once", both.glass(1, 2), 1);
    }

    // ---- 10 pour

    static void promise10PourOfSuchAsThereAre() {
        Bank bank = busy("g0,0,1,2,30,4;g0,0,1,2,50,6;");
        edges.range("from glass", bank, (b, i) -> b.pour(i, 0, 0, 1, 2), 0, 7, 1, 7);
        edges.range("from bulb", bank, (b, s) -> b.pour(0, s, 1, 1, 2), 0, 8, 1, 8);
        edges.range("from bulb of 1", bank, (b, s) -> b.pour(1, s, 0, 0, 2), 0, 31, 1, 31);
        edges.range("into glass", bank, (b, j) -> b.pour(0, 0, j, 1, 2), 0, 7, 1, 8);
        edges.range("into bulb", bank, (b, r) -> b.pour(0, 0, 1, r, 2), 0, 52, 1, 8);
        edges.range("into bulb of 0", bank, (b, r) -> b.pour(1, 1, 0, r, 2), 0, 31, 1, 7);
        Bank eight = busy(FILLED.repeat(8));
        edges.range("from glass of 8", eight, (b, i) -> b.pour(i, 1, 3, 0, 1), 0, 1000, 7, 1000);
        edges.range("into glass of 8", eight, (b, j) -> b.pour(3, 0, j, 1, 1), 0, 1001, 7, 1000);
    }

    static void promise10PourOf1To9999Grains() {
        Bank bank = heaped(9999);
        edges.range("grains", bank, (b, n) -> b.pour(0, 0, 0, 1, n), 1, 1, 9999, 9999);
        edges.range("grains of another", bank, (b, n) -> b.pour(0, 0, 1, 0, n), 1, 1, 9999, 9999);
    }

    static void promise10PourNoMoreThanThereAre() {
        Bank bank = busy("g0,0,1,2,20,6;g0,2,3,4,0,1;");
        edges.due("all but one", bank.twin().pour(0, 0, 1, 0, 18), 18);
        edges.due("all", bank.twin().pour(0, 0, 1, 0, 19), 19);
        edges.refused("one more", bank, b -> b.pour(0, 0, 1, 0, 20), NO);
        edges.refused("far more", bank, b -> b.pour(0, 0, 1, 0, 9999), NO);
        edges.refused("of none", bank, b -> b.pour(1, 0, 0, 0, 1), NO);
        edges.due("of one", bank.twin().pour(1, 1, 1, 0, 1), 1);
        Bank emptied = bank.twin();
        emptied.pour(0, 0, 1, 0, 19);
        edges.due("none is left", emptied.glass(0, 0), 0);
        edges.refused("nothing is left", emptied, b -> b.pour(0, 0, 1, 0, 1), NO);
    }

    static void promise10PourUpTo9999InOne() {
        Bank nearly = heaped(9998);
        edges.refused("two above 9998", nearly, b -> b.pour(7, 1, 0, 0, 2), NO);
        edges.due("one above 9998", nearly.pour(7, 1, 0, 0, 1), 9999);
        edges.refused("one above 9999", nearly, b -> b.pour(7, 1, 0, 0, 1), NO);
        edges.refused("many above 9999", nearly, b -> b.pour(7, 1, 0, 0, 998), NO);
        edges.due("there", nearly.glass(0, 0), 9999);
        edges.due("into the other bulb", nearly.pour(0, 0, 0, 1, 9999), 9999);
    }

    /** 9999 at most binds what is poured; sand that falls may heap up higher. */
    static void promise10PourNothingIntoWhatFellAbove9999() {
        Bank bank = Bank.laid("g0,0,1,60,999,999;" + FILLED.repeat(7));
        for (int i = 1; i <= 7; i++) {
            bank.pour(i, 0, 0, 1, 999);
        }
        bank.pour(1, 1, 0, 1, 999);
        bank.pour(2, 1, 0, 1, 999);
        bank.minutes(17);
        edges.due("fallen", bank.glass(0, 1), 10989);
        edges.refused("not into it", bank, b -> b.pour(3, 1, 0, 1, 1), NO);
        edges.due("out of it", bank.pour(0, 1, 0, 0, 9999), 9999);
        edges.due("left in it", bank.glass(0, 1), 990);
    }

    static void promise10PourIntoItselfIsBad() {
        Bank bank = busy("g0,0,1,2,20,6;g0,2,3,4,9,9;");
        for (int bulb = 0; bulb < 4; bulb++) {
            int i = bulb / 2;
            int s = bulb % 2;
            edges.refused("bulb " + bulb, bank, b -> b.pour(i, s, i, s, 1), BAD);
            edges.due("into the other", bank.twin().pour(i, s, i, 1 - s, 1) > 0 ? 1 : 0, 1);
            edges.due("into the other glass", bank.twin().pour(i, s, 1 - i, s, 1) > 0 ? 1 : 0, 1);
        }
    }

    static void promise10PourIsBadAheadOfNo() {
        Bank bank = busy(FIRST);
        edges.refused("into itself, not so many", bank, b -> b.pour(0, 0, 0, 0, 9999), BAD);
        edges.refused("no such glass, not so many", bank, b -> b.pour(0, 0, 1, 0, 9999), BAD);
        edges.refused("no such bulb, not so many", bank, b -> b.pour(0, 0, 0, 2, 9999), BAD);
        edges.refused("no such number", bank, b -> b.pour(0, 1, 0, 0, 10000), BAD);
        edges.refused("none at all", bank, b -> b.pour(0, 1, 0, 0, 0), BAD);
        edges.refused("none into itself", bank, b -> b.pour(0, 1, 0, 1, 0), BAD);
    }

    // ---- 11 undo

    static void promise11UndoOfNothing() {
        Bank bank = Bank.laid(FIRST);
        edges.refused("at first", bank, Bank::undo, NO);
        bank.turn(0);
        edges.due("of one", bank.undo(), 0);
        edges.refused("of none again", bank, Bank::undo, NO);
    }

    static void promise11UndoOfEightAtMost() {
        for (int n = 1; n <= 10; n++) {
            Bank bank = Bank.laid("g0,0,1,2,999,0;");
            for (int k = 1; k <= n; k++) {
                bank.pour(0, 0, 0, 1, k);
            }
            int known = Math.min(n, 8);
            edges.due("known of " + n, bank.count(4), known);
            for (int left = known - 1; left >= 0; left--) {
                edges.due("undo of " + n, bank.undo(), left);
                int k = n - known + left;
                edges.due("poured by " + k, bank.glass(0, 1), k * (k + 1) / 2);
            }
            edges.refused("no more of " + n, bank, Bank::undo, NO);
        }
    }

    static void promise11UndoTheLatestFirst() {
        Bank bank = Bank.laid("g0,0,1,2,20,0;g0,2,3,2,20,0;y0,1;");
        String[] seen = new String[8];
        for (int k = 0; k < 8; k++) {
            seen[k] = Look.glasses(bank);
            edges.due("done", (k % 2 == 0 ? bank.turn(k / 4) : bank.pour(k / 4, 0, 1, 1, k)) > 0
                    ? 1 : 0, 1);
        }
        for (int k = 7; k >= 0; k--) {
            edges.due("undo", bank.undo(), k);
            edges.same("as ahead of " + k, Look.glasses(bank), seen[k]);
        }
    }

    /** Turns and pourings of different glasses, more of them than are known. */
    static void promise11UndoOfEightUnlikeEachOther() {
        for (int n = 7; n <= 18; n++) {
            Bank bank = Bank.laid("g0,0,1,2,500,500;g0,2,3,2,500,500;g0,4,5,2,500,500;y2,0;");
            String[] seen = new String[n];
            for (int k = 0; k < n; k++) {
                seen[k] = Look.glasses(bank);
                if (k % 3 == 1) {
                    edges.due("turned", bank.turn(k % 4 == 0 ? 2 : 1), k % 4 == 0 ? 2 : 1);
                } else {
                    int there = bank.glass(2, k / 3 % 2);
                    edges.due("poured", bank.pour(k % 2, k / 2 % 2, 2, k / 3 % 2, k + 1), there + k + 1);
                }
            }
            edges.due("all done", bank.count(4), Math.min(n, 8));
            for (int k = n - 1; k >= Math.max(0, n - 8); k--) {
                bank.undo();
                edges.same("as ahead of " + k, Look.glasses(bank), seen[k]);
            }
            edges.refused("no more", bank, Bank::undo, NO);
        }
    }

    static void promise11UndoOfOneInAnothersPlace() {
        Bank bank = Bank.laid("g0,0,1,2,20,0;");
        bank.turn(0);
        bank.undo();
        bank.pour(0, 0, 0, 1, 3);
        edges.due("the pouring", bank.undo(), 0);
        edges.dueRow("poured back, not turned", Look.glass(bank, 0), 20, 0, 0, 0, 2, 0);
        bank.turn(0);
        edges.due("the turn", bank.undo(), 0);
        edges.dueRow("turned back, not poured", Look.glass(bank, 0), 20, 0, 0, 0, 2, 0);
    }

    static void promise11UndoMakesRoomForMore() {
        Bank bank = Bank.laid("g0,0,1,2,999,0;");
        for (int k = 0; k < 8; k++) {
            bank.pour(0, 0, 0, 1, 1);
        }
        edges.due("undo", bank.undo(), 7);
        bank.turn(0);
        edges.due("eight again", bank.count(4), 8);
        for (int left = 7; left >= 0; left--) {
            edges.due("undo all", bank.undo(), left);
        }
        edges.dueRow("as at first", Look.glass(bank, 0), 999, 0, 0, 0, 2, 0);
    }

    static void promise11UndoNoneBehindAMinute() {
        Bank bank = Bank.laid(FIRST);
        bank.turn(0);
        bank.turn(0);
        edges.due("a minute", bank.minutes(1), 1);
        edges.due("none is known", bank.count(4), 0);
        edges.refused("undo", bank, Bank::undo, NO);
        bank.turn(0);
        edges.due("what came behind", bank.undo(), 0);
        edges.refused("nothing ahead of the minute", bank, Bank::undo, NO);
    }

    static void promise11UndoNoneBehindWhatCameBack() {
        Bank bank = Bank.laid(FIRST);
        bank.turn(0);
        bank.keep();
        edges.due("known behind keep", bank.count(4), 1);
        bank.pour(0, 0, 0, 1, 3);
        edges.due("known ahead of back", bank.count(4), 2);
        edges.due("back", bank.back(), 0);
        edges.due("none is known", bank.count(4), 0);
        edges.refused("undo", bank, Bank::undo, NO);
        edges.dueRow("as kept", Look.glass(bank, 0), 20, 0, 1, 0, 2, 0);
        bank.turn(0);
        edges.due("what came behind", bank.undo(), 0);
    }

    static void promise11UndoIsKnownBehindKeep() {
        Bank bank = Bank.laid(FIRST);
        bank.turn(0);
        bank.keep();
        edges.due("undo", bank.undo(), 0);
        edges.due("turned back", bank.glass(0, 2), 0);
        edges.due("still kept", bank.back(), 0);
        edges.due("as kept", bank.glass(0, 2), 1);
    }

    /** Whatever is refused, or only looks, leaves what can be undone. */
    static void promise11UndoIsKnownBehindRefusedCalls() {
        Bank bank = Bank.laid(FIRST);
        bank.turn(0);
        edges.refused("minutes", bank, b -> b.minutes(0), BAD);
        edges.refused("turn", bank, b -> b.turn(1), BAD);
        edges.refused("pour", bank, b -> b.pour(0, 1, 0, 0, 1), NO);
        edges.refused("back", bank, Bank::back, NO);
        bank.wipe();
        edges.refused("lay", bank, Bank::lay, NO);
        edges.due("undo", bank.undo(), 0);
        edges.due("turned back", bank.glass(0, 2), 0);
    }
}
