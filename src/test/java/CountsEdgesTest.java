/** The edges of promises 19 to 21: what was counted, what was stolen, a fair split. */
public final class CountsEdgesTest {
    private static final int NO = Edges.NO, BAD = Edges.BAD, FULL = Edges.FULL, NONE = Edges.NONE;
    private static final String FIRST = "g0,0,1,2,20,0;";

    private static final Edges edges = new Edges();

    public static void main(String[] args) {
        edges.run(CountsEdgesTest.class, 19, 21);
    }

    /** A bank with something to undo, something kept, and one counted. */
    private static Bank busy(String text) {
        Bank bank = Bank.laid(text);
        bank.keep();
        bank.counted(0, 7, 8);
        bank.turn(0);
        bank.turn(0);
        return bank;
    }

    /** A glass of 25 grains, counted in some minutes: minute, grains, minute, grains, .. */
    private static Bank counts(int... told) {
        Bank bank = Bank.laid("g0,0,1,2,20,5;" + FIRST);
        for (int k = 0; k < told.length; k += 2) {
            edges.due("counted", bank.counted(0, told[k], told[k + 1]), k / 2 + 1);
        }
        return bank;
    }

    private static void stolen(Bank bank, String when, int... want) {
        edges.dueRow("stolen " + when, Look.stolen(bank, 0), want);
    }

    // ---- 19 counted

    static void promise19CountedOfSuchAsThereAre() {
        edges.range("of one, glass", busy(FIRST), (b, i) -> b.counted(i, 1, 1), 0, 2, 0, 2);
        edges.range("of eight, glass", busy(FIRST.repeat(8)), (b, i) -> b.counted(i, 1, 1), 0, 2, 7, 2);
    }

    static void promise19CountedInMinutes0To20000() {
        edges.range("minute", busy(FIRST), (b, m) -> b.counted(0, m, 1), 0, 2, 20000, 2);
        Bank bank = Bank.laid(FIRST);
        bank.counted(0, 20000, 19);
        edges.due("ahead of the shelf", bank.stolen(0, 1), 20000);
        bank.counted(0, 0, 18);
        edges.due("in the first", bank.stolen(0, 1), 0);
    }

    static void promise19CountedAre0To9999Grains() {
        edges.range("grains", busy(FIRST), (b, n) -> b.counted(0, 1, n), 0, 2, 9999, 2);
        Bank bank = Bank.laid(FIRST);
        bank.counted(0, 1, 9999);
        edges.due("more than there are", bank.stolen(0, 0), 0);
        bank.counted(0, 2, 0);
        edges.due("none", bank.stolen(0, 0), 20);
    }

    static void promise19CountedNothingAsTold() {
        edges.refused("nothing as told", busy(FIRST), b -> b.counted(1, 20001, 10000), BAD);
    }

    static void promise19CountedAre12AtMost() {
        Bank bank = Bank.laid(FIRST.repeat(8));
        for (int k = 1; k <= 12; k++) {
            edges.due("counted", bank.counted(k % 8, k, 20 - k), k);
            edges.due("how many", bank.count(5), k);
        }
        for (int i = 0; i < 8; i++) {
            int glass = i;
            edges.refused("a thirteenth", bank, b -> b.counted(glass, 1, 0), FULL);
        }
        edges.due("of the last", bank.stolen(4, 0), 12);
        edges.due("of the first", bank.stolen(1, 0), 9);
    }

    static void promise19CountedIsBadAheadOfFull() {
        Bank bank = Bank.laid(FIRST);
        for (int k = 1; k <= 12; k++) {
            bank.counted(0, k, 20);
        }
        edges.refused("no such glass", bank, b -> b.counted(1, 0, 0), BAD);
        edges.refused("no such minute", bank, b -> b.counted(0, 20001, 0), BAD);
        edges.refused("no such number", bank, b -> b.counted(0, 0, 10000), BAD);
    }

    static void promise19CountedHasRoomBehindBackAndLay() {
        Bank bank = Bank.laid(FIRST);
        for (int k = 1; k <= 11; k++) {
            bank.counted(0, k, 20);
        }
        bank.keep();
        edges.due("the twelfth", bank.counted(0, 12, 3), 12);
        edges.refused("a thirteenth", bank, b -> b.counted(0, 13, 4), FULL);
        bank.back();
        edges.due("the twelfth is gone", bank.stolen(0, 0), 0);
        edges.due("another twelfth", bank.counted(0, 13, 4), 12);
        edges.due("of it", bank.stolen(0, 0), 16);
        bank.lay();
        edges.due("the first", bank.counted(0, 1, 2), 1);
    }

    static void promise19CountedStaysBehindTurnsAndMinutes() {
        Bank bank = counts(3, 24);
        bank.turn(0);
        bank.undo();
        bank.minutes(9);
        edges.due("how many", bank.count(5), 1);
        stolen(bank, "then", 1, 3, NONE, 0);
        edges.refused("undo", bank, Bank::undo, NO);
    }

    static void promise19CountedTwiceIsTwo() {
        Bank bank = counts(3, 24, 3, 24, 3, 24);
        edges.due("how many", bank.count(5), 3);
        stolen(bank, "alike", 1, 3, NONE, 0);
    }

    // ---- 20 stolen

    static void promise20StolenFromSuchAsThereAre() {
        edges.range("of one, glass", busy(FIRST), (b, i) -> b.stolen(i, 0), 0, 12, 0, 12);
        Bank eight = busy(FIRST.repeat(8));
        eight.counted(7, 1, 19);
        edges.range("of eight, glass", eight, (b, i) -> b.stolen(i, 0), 0, 12, 7, 1);
        for (int k = 0; k < 4; k++) {
            int what = k;
            edges.refused("of the next", busy(FIRST), b -> b.stolen(1, what), BAD);
        }
    }

    static void promise20StolenAnswersWhatIsTold() {
        Bank bank = busy(FIRST);
        bank.counted(0, 9, 9);
        edges.range("what", bank, (b, what) -> b.stolen(0, what), 0, 12, 3, 1);
        edges.refused("of none counted, below", Bank.laid(FIRST), b -> b.stolen(0, -1), BAD);
        edges.refused("of none counted, above", Bank.laid(FIRST), b -> b.stolen(0, 4), BAD);
    }

    static void promise20StolenIs0AtLeast() {
        stolen(counts(3, 9999), "far more", 0, NONE, NONE, 0);
        stolen(counts(3, 26), "one more", 0, NONE, NONE, 0);
        stolen(counts(3, 25), "as many", 0, NONE, NONE, 0);
        stolen(counts(3, 24), "one fewer", 1, 3, NONE, 0);
        stolen(counts(3, 0), "all", 25, 3, NONE, 0);
    }

    static void promise20StolenIs0OfNone() {
        stolen(counts(), "none counted", 0, NONE, NONE, 0);
        Bank other = counts();
        other.counted(1, 3, 0);
        stolen(other, "of the other alone", 0, NONE, NONE, 0);
        edges.due("of the other", other.stolen(1, 0), 20);
    }

    static void promise20StolenIsByTheFewest() {
        edges.due("the last", counts(1, 20, 2, 19).stolen(0, 0), 6);
        edges.due("the first", counts(1, 19, 2, 20).stolen(0, 0), 6);
        edges.due("between", counts(1, 20, 2, 10, 3, 30).stolen(0, 0), 15);
    }

    static void promise20StolenIsByWhatWasTold() {
        Bank none = Bank.laid("g0,0,1,2,0,0;");
        none.counted(0, 1, 0);
        stolen(none, "of nothing", 0, NONE, NONE, 0);
        Bank most = Bank.laid("g0,0,1,2,999,999;");
        most.counted(0, 1, 1998);
        stolen(most, "of the most, none", 0, NONE, NONE, 0);
        most.counted(0, 2, 1997);
        stolen(most, "of the most, one", 1, 2, 1, 0);
        most.counted(0, 3, 0);
        stolen(most, "of the most, all", 1998, 2, 1, 0);
        Bank poured = counts(3, 20);
        poured.pour(0, 0, 1, 0, 20);
        poured.minutes(5);
        stolen(poured, "whatever is poured", 5, 3, NONE, 0);
    }

    static void promise20StolenTillTheFirstMinuteOfFewer() {
        edges.due("as many", counts(5, 25).stolen(0, 1), NONE);
        edges.due("one fewer", counts(5, 24).stolen(0, 1), 5);
        edges.due("in minute 0", counts(5, 24, 0, 24).stolen(0, 1), 0);
        edges.due("in the last minute", counts(20000, 24).stolen(0, 1), 20000);
        edges.due("told last", counts(9, 20, 8, 25, 7, 24).stolen(0, 1), 7);
        edges.due("told first", counts(7, 24, 8, 20, 9, 1).stolen(0, 1), 7);
        edges.due("in the same minute", counts(7, 25, 7, 24).stolen(0, 1), 7);
    }

    static void promise20StolenSinceTheLastAhead() {
        edges.due("none ahead", counts(5, 24).stolen(0, 2), NONE);
        edges.due("as many", counts(3, 25, 5, 24).stolen(0, 2), 3);
        edges.due("more", counts(3, 26, 5, 24).stolen(0, 2), 3);
        edges.due("in minute 0", counts(0, 25, 1, 24).stolen(0, 2), 0);
        edges.due("the last of several", counts(4, 25, 2, 25, 3, 25, 5, 24).stolen(0, 2), 4);
        edges.due("one minute ahead", counts(4, 25, 5, 24).stolen(0, 2), 4);
        edges.due("not in the same minute", counts(5, 25, 5, 24).stolen(0, 2), NONE);
        edges.due("not behind", counts(6, 25, 5, 24).stolen(0, 2), NONE);
        edges.due("not ahead of a second one", counts(3, 25, 5, 24, 6, 25, 7, 20).stolen(0, 2), 3);
        edges.due("the last minutes", counts(19999, 25, 20000, 24).stolen(0, 2), 19999);
    }

    static void promise20StolenSinceNoneWithoutTill() {
        edges.due("none counted", counts().stolen(0, 2), NONE);
        edges.due("no fewer", counts(3, 25, 4, 26).stolen(0, 2), NONE);
    }

    static void promise20StolenFalseAreMoreThanOneAhead() {
        edges.due("none counted", counts().stolen(0, 3), 0);
        edges.due("one", counts(3, 9).stolen(0, 3), 0);
        edges.due("fewer", counts(3, 9, 4, 8).stolen(0, 3), 0);
        edges.due("as many", counts(3, 9, 4, 9).stolen(0, 3), 0);
        edges.due("one more", counts(3, 9, 4, 10).stolen(0, 3), 1);
        edges.due("one more, told first", counts(4, 10, 3, 9).stolen(0, 3), 1);
        edges.due("in the same minute", counts(3, 9, 3, 10).stolen(0, 3), 0);
        edges.due("in a minute behind", counts(3, 10, 4, 9).stolen(0, 3), 0);
        edges.due("above what was told", counts(3, 9998, 4, 9999).stolen(0, 3), 1);
        edges.due("minute 0", counts(0, 0, 20000, 1).stolen(0, 3), 1);
    }

    static void promise20StolenFalseCountsEachOnce() {
        edges.due("more than two", counts(1, 8, 2, 7, 3, 9).stolen(0, 3), 1);
        edges.due("two more than one", counts(1, 8, 2, 9, 3, 9).stolen(0, 3), 2);
        edges.due("each more than the next", counts(1, 1, 2, 2, 3, 3, 4, 4, 5, 5, 6, 6, 7, 7, 8, 8,
                9, 9, 10, 10, 11, 11, 12, 12).stolen(0, 3), 11);
    }

    static void promise20StolenFalseAreOfOneGlass() {
        Bank bank = counts(5, 10);
        bank.counted(1, 1, 3);
        bank.counted(1, 9, 20);
        edges.due("of the first", bank.stolen(0, 3), 0);
        edges.due("of the second", bank.stolen(1, 3), 1);
    }

    static void promise20StolenChangesNothing() {
        for (int k = 0; k < 4; k++) {
            int what = k;
            edges.stays("stolen", busy(FIRST), b -> b.stolen(0, what));
        }
    }

    // ---- 21 split

    private static void split(Bank bank, int r, int... want) {
        edges.dueRow("split of " + r, Look.row(6, h -> bank.split(r, h)), want);
    }

    /** Hand 0 has 5 of 8, hand 5 has 3: of 9999 that is 6249 and 3/8, and 3749 and 5/8. */
    static void promise21SplitOf0To9999Grains() {
        Bank bank = busy("g0,0,5,1,5,3;");
        edges.range("grains", bank, (b, r) -> b.split(r, 0), 0, 0, 9999, 6249);
        split(bank, 1, 1, 0, 0, 0, 0, 0);
        split(bank, 9998, 6249, 0, 0, 0, 0, 3749);
    }

    static void promise21SplitToHands0To5() {
        Bank bank = busy("g0,0,5,1,5,3;");
        edges.range("hand", bank, (b, h) -> b.split(9999, h), 0, 6249, 5, 3750);
        edges.refused("nothing as told", bank, b -> b.split(10000, 6), BAD);
    }

    static void promise21SplitIsCutAndTheRestGoesByRests() {
        Bank bank = Bank.laid("g0,0,1,1,5,3;g0,2,3,1,2,0;");
        split(bank, 0, 0, 0, 0, 0, 0, 0);
        split(bank, 1, 1, 0, 0, 0, 0, 0);
        split(bank, 2, 1, 1, 0, 0, 0, 0);
        split(bank, 3, 1, 1, 1, 0, 0, 0);
        split(bank, 7, 4, 2, 1, 0, 0, 0);
        split(bank, 9, 4, 3, 2, 0, 0, 0);
        split(bank, 10, 5, 3, 2, 0, 0, 0);
        split(bank, 11, 6, 3, 2, 0, 0, 0);
    }

    static void promise21SplitOfSeveralTheLowestHand() {
        Bank three = Bank.laid("g0,1,3,1,1,1;g0,5,5,1,1,0;");
        split(three, 1, 0, 1, 0, 0, 0, 0);
        split(three, 2, 0, 1, 0, 1, 0, 0);
        split(three, 3, 0, 1, 0, 1, 0, 1);
        split(three, 4, 0, 2, 0, 1, 0, 1);
        Bank six = Bank.laid("g0,0,1,1,1,1;g0,2,3,1,1,1;g0,4,5,1,1,1;");
        split(six, 5, 1, 1, 1, 1, 1, 0);
        split(six, 6, 1, 1, 1, 1, 1, 1);
        split(six, 7, 2, 1, 1, 1, 1, 1);
    }

    static void promise21SplitNoneToAHandThatHasNone() {
        split(Bank.laid("g0,4,3,1,1,0;"), 9999, 0, 0, 0, 0, 9999, 0);
        split(Bank.laid("g0,4,3,1,0,1;"), 1, 0, 0, 0, 1, 0, 0);
        split(Bank.laid("g0,4,5,1,999,1;"), 1, 0, 0, 0, 0, 1, 0);
        split(Bank.laid("g0,4,5,1,1,999;"), 2, 0, 0, 0, 0, 0, 2);
    }

    static void promise21SplitIsNoneIfAllHaveNone() {
        Bank none = busy("g0,0,1,1,0,0;");
        for (int hand = 0; hand < 6; hand++) {
            int h = hand;
            edges.refused("of none", none, b -> b.split(0, h), NONE);
            edges.refused("of some", none, b -> b.split(1, h), NONE);
            edges.refused("of the most", none, b -> b.split(9999, h), NONE);
        }
        Bank one = busy("g0,0,1,1,0,0;g0,2,2,1,0,1;");
        split(one, 0, 0, 0, 0, 0, 0, 0);
        split(one, 1, 0, 0, 1, 0, 0, 0);
    }

    static void promise21SplitIsBadAheadOfNone() {
        Bank none = busy("g0,0,1,1,0,0;");
        for (int off : new int[] {-1, 6}) {
            edges.refused("hand " + off, none, b -> b.split(1, off), BAD);
        }
        for (int off : new int[] {-1, 10000}) {
            edges.refused("grains " + off, none, b -> b.split(off, 0), BAD);
        }
    }

    /**
     * All the grains there can be: 15984, of which two hands have half each, or one has all. Where
     * hand 0 has 1 of 14986, it gets a grain as soon as its rest is no smaller: from 7493 on.
     */
    static void promise21SplitOfTheMostGrains() {
        split(Bank.laid("g0,4,5,1,999,999;".repeat(8)), 9999, 0, 0, 0, 0, 5000, 4999);
        split(Bank.laid("g0,5,5,1,999,999;".repeat(8)), 9999, 0, 0, 0, 0, 0, 9999);
        Bank one = Bank.laid("g0,5,5,1,999,999;".repeat(7) + "g0,0,5,1,1,999;");
        split(one, 9999, 1, 0, 0, 0, 0, 9998);
        split(one, 7492, 0, 0, 0, 0, 0, 7492);
        split(one, 7493, 1, 0, 0, 0, 0, 7492);
        split(one, 7494, 1, 0, 0, 0, 0, 7493);
    }

    static void promise21SplitGivesAllAway() {
        Bank bank = Bank.laid("g0,0,1,1,97,31;g2,2,3,1,55,13;g0,4,4,1,3,3;p1,5;");
        for (int r : new int[] {1, 2, 3, 5, 8, 13, 201, 202, 203, 9998, 9999}) {
            int sum = 0;
            for (int h = 0; h < 6; h++) {
                sum += bank.split(r, h);
            }
            edges.due("all of " + r, sum, r);
        }
    }

    static void promise21SplitChangesNothing() {
        edges.stays("split", busy(FIRST), b -> b.split(7, 0));
    }
}
