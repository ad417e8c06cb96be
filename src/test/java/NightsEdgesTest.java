/** The edges of promises 22 to 26: nights by draws, shelves kept, and how many there are. */
public final class NightsEdgesTest {
    private static final int NO = Edges.NO, BAD = Edges.BAD, FULL = Edges.FULL, NONE = Edges.NONE;
    private static final String FIRST = "g0,0,1,2,20,0;";

    private static final Edges edges = new Edges();

    public static void main(String[] args) {
        edges.run(NightsEdgesTest.class, 22, 26);
    }

    /** A bank with something to undo, something kept, and one counted. */
    private static Bank busy(String text) {
        Bank bank = Bank.laid(text);
        bank.keep();
        bank.counted(0, 7, 8);
        bank.turn(0);
        bank.turn(0);
        return bank;
    }

    /** DRAW(i, k) by z; the rest is taken first, so that no number comes near to its type's end. */
    private static int draw(int z, int i, int k) {
        long rest = (7919L * z + 6151L * i + 3571L * k + 1) % 65521;
        return (int) (rest * rest % 65521 % 1000);
    }

    /** The first z by which glass 0 draws a number in the first minute. */
    private static int byWhich(int drawn) {
        for (int z = 0; z <= 9999; z++) {
            if (draw(z, 0, 0) == drawn) {
                return z;
            }
        }
        throw new IllegalStateException("never drawn: " + drawn);
    }

    private static int lost(String text, int z, int t) {
        return Bank.laid(text).night(z, t, 0);
    }

    private static int broken(String text, int z, int t) {
        return Bank.laid(text).night(z, t, 1);
    }

    // ---- 22 night

    /** By 0 glass 0 draws 1 in the first minute; by 9999 it first draws below 99 in the tenth. */
    static void promise22NightBy0To9999() {
        Bank bank = busy(FIRST + "r99,0;");
        edges.range("number", bank, (b, z) -> b.night(z, 1, 0), 0, 20, 9999, 0);
        edges.due("9999 in 9", bank.night(9999, 9, 1), 0);
        edges.due("9999 in 10", bank.night(9999, 10, 1), 1);
    }

    static void promise22NightOf0To2000Minutes() {
        Bank bank = busy(FIRST + "r2,0;");
        edges.range("minutes", bank, (b, t) -> b.night(0, t, 0), 0, 0, 2000, 20);
        edges.due("1", bank.night(0, 1, 0), 20);
    }

    static void promise22NightAnswersWhatIsTold() {
        Bank bank = busy(FIRST + "r2,0;");
        edges.range("what", bank, (b, what) -> b.night(0, 1, what), 0, 20, 1, 1);
        edges.refused("nothing as told", bank, b -> b.night(10000, 2001, 2), BAD);
    }

    static void promise22NightInWhichNothingIsLostWithoutRisks() {
        edges.due("none told", lost(FIRST, 1415, 2000), 0);
        edges.due("0 told", lost(FIRST + "r0,0;", 1415, 2000), 0);
        edges.due("none breaks", broken(FIRST + "r0,0;", 1415, 2000), 0);
    }

    /** Of what is drawn: below R it breaks, from R on and below R and Q a mouse comes. */
    static void promise22NightBelowRBelowRAndQ() {
        int[] risks = {0, 1, 2, 50, 99};
        for (int r : risks) {
            for (int q : risks) {
                String text = "g0,0,1,2,20,7;r" + r + "," + q + ";";
                for (int drawn : new int[] {0, r - 1, r, r + 1, r + q - 1, r + q, r + q + 1, 999}) {
                    if (drawn < 0) {
                        continue;
                    }
                    int want = drawn < r ? 27 : drawn < r + q ? 3 : 0;
                    String call = text + " drawn " + drawn;
                    edges.due(call + ", lost", lost(text, byWhich(drawn), 1), want);
                    edges.due(call + ", broken", broken(text, byWhich(drawn), 1), want == 27 ? 1 : 0);
                }
            }
        }
    }

    static void promise22NightInWhichAMouseTakes3OrWhatThereIs() {
        int[] taken = {0, 1, 2, 3, 3, 3};
        for (int grains = 0; grains < taken.length; grains++) {
            edges.due("of " + grains, lost("g0,0,1,1," + grains + ",9;r0,2;", 0, 1), taken[grains]);
        }
        edges.due("of the upper bulb", lost("g0,0,1,1,9,0;c0,99,0;r0,2;", 0, 1), 0);
        edges.due("of the bulb that came up", lost("g0,0,1,1,0,2;c0,99,0;r0,2;", 0, 1), 2);
    }

    /** Behind the clerks, ahead of what falls. */
    static void promise22NightInWhichAMouseIsAheadOfTheSand() {
        edges.due("all that is there", lost("g0,0,1,60,3,0;r0,2;", 0, 1), 3);
        Bank bank = Bank.laid("g0,0,1,60,3,0;r0,2;");
        edges.due("nothing falls", bank.nightHas(0, 1, 1), 0);
    }

    static void promise22NightInWhichABrokenOneLosesBothBulbs() {
        edges.due("none", lost("g0,0,1,1,0,0;r2,0;", 0, 1), 0);
        edges.due("none, broken", broken("g0,0,1,1,0,0;r2,0;", 0, 1), 1);
        edges.due("one above", lost("g0,0,1,1,1,0;r2,0;", 0, 1), 1);
        edges.due("one below", lost("g0,0,1,1,0,1;r2,0;", 0, 1), 1);
        edges.due("the most", lost("g0,0,1,1,999,999;r2,0;", 0, 1), 1998);
    }

    static void promise22NightInWhichEachBreaksOnce() {
        edges.due("broken", broken(FIRST + "r99,99;", 0, 2000), 1);
        edges.due("lost", lost(FIRST + "r99,99;", 0, 2000), 20);
        edges.due("eight", broken(FIRST.repeat(8) + "r99,0;", 9999, 28), 8);
        edges.due("all but one", broken(FIRST.repeat(8) + "r99,0;", 9999, 27), 7);
        edges.due("eight, lost", lost("g0,0,1,1,999,999;".repeat(8) + "r99,0;", 9999, 2000), 15984);
    }

    static void promise22NightWhoseDrawsAreOfItsOwnMinutes() {
        Bank bank = Bank.laid(FIRST + "r2,0;");
        bank.minutes(5);
        edges.due("0 in its first minute", bank.night(0, 1, 1), 1);
        edges.due("1 not yet", bank.night(1, 173, 1), 0);
        edges.due("1 in the 174th", bank.night(1, 174, 1), 1);
    }

    /** 9999 grains above a neck of 1 last all night: three are lost by each mouse. */
    static void promise22NightOfTheGreatestDraws() {
        Bank bank = Bank.laid("g0,0,1,1,999,999;".repeat(8) + "r0,99;");
        for (int i = 1; i <= 7; i++) {
            bank.pour(i, 0, 0, 0, 999);
        }
        bank.pour(1, 1, 0, 0, 999);
        bank.pour(2, 1, 0, 0, 999);
        edges.due("heaped", bank.pour(3, 1, 0, 0, 9), 9999);
        for (int z : new int[] {0, 1, 5000, 9998, 9999}) {
            for (int t : new int[] {0, 1, 2, 3, 1998, 1999, 2000}) {
                edges.due("by " + z + " in " + t, bank.night(z, t, 0), 3 * miceIn(z, t));
            }
        }
        int last = 0;
        while (draw(last, 0, 1999) >= 99) {
            last++;
        }
        edges.due("in the last minute", bank.night(last, 2000, 0) - bank.night(last, 1999, 0), 3);
    }

    /** To how many of the first minutes of a night a mouse comes to glass 0, of 99. */
    private static int miceIn(int z, int t) {
        int mice = 0;
        for (int k = 0; k < t; k++) {
            mice += draw(z, 0, k) < 99 ? 1 : 0;
        }
        return mice;
    }

    /** By 9999 the eight glasses first draw below 99 in these minutes of the night. */
    static void promise22NightWhoseDrawsAreOfEachGlass() {
        int[] breaks = {9, 8, 2, 27, 1, 16, 3, 13};
        for (int i = 0; i < 8; i++) {
            String nothing = "g0,0,1,2,0,0;";
            String text = nothing.repeat(i) + FIRST + nothing.repeat(7 - i) + "r99,0;";
            edges.due("glass " + i + " is whole", lost(text, 9999, breaks[i]), 0);
            edges.due("glass " + i + " breaks", lost(text, 9999, breaks[i] + 1), 20);
        }
    }

    static void promise22NightChangesNothing() {
        edges.stays("lost", busy(FIRST + "c0,2,1;r9,9;"), b -> b.night(0, 9, 0));
        edges.stays("broken", busy(FIRST + "c0,2,1;r9,9;"), b -> b.night(0, 9, 1));
    }

    // ---- 23 nightHas

    private static void nightHas(String text, int z, int t, int... want) {
        Bank bank = Bank.laid(text);
        edges.dueRow(text + " by " + z + " in " + t, Look.row(6, h -> bank.nightHas(z, t, h)), want);
    }

    static void promise23NightHasBy0To9999() {
        Bank bank = busy(FIRST + "r99,0;");
        edges.range("number", bank, (b, z) -> b.nightHas(z, 1, 0), 0, 0, 9999, 18);
    }

    static void promise23NightHasBehind0To2000Minutes() {
        Bank bank = busy(FIRST);
        edges.range("minutes", bank, (b, t) -> b.nightHas(0, t, 0), 0, 20, 2000, 0);
        edges.due("1", bank.nightHas(0, 1, 0), 18);
    }

    static void promise23NightHasOfHands0To5() {
        Bank bank = busy("g0,0,5,2,20,7;r0,2;");
        edges.range("hand", bank, (b, h) -> b.nightHas(0, 1, h), 0, 15, 5, 9);
        edges.refused("nothing as told", bank, b -> b.nightHas(10000, 2001, 6), BAD);
    }

    static void promise23NightHasIsAsLaterWithoutRisks() {
        Bank bank = Bank.laid("g2,0,1,3,99,0;g1,1,2,5,50,60;g3,3,4,7,200,1;y0,1;c0,3,1;c2,7,0;p0,5;");
        bank.minutes(4);
        for (int t : new int[] {0, 1, 2, 3, 99, 1999, 2000}) {
            for (int h = 0; h < 6; h++) {
                edges.due("hand " + h + " in " + t, bank.nightHas(9999, t, h), bank.later(t, h));
            }
        }
    }

    static void promise23NightHasNothingOfABrokenOne() {
        nightHas("g0,0,1,2,20,7;r2,0;", 0, 0, 20, 7, 0, 0, 0, 0);
        nightHas("g0,0,1,2,20,7;r2,0;", 0, 1, 0, 0, 0, 0, 0, 0);
        nightHas("g0,0,1,2,20,7;r2,0;", 0, 2000, 0, 0, 0, 0, 0, 0);
        nightHas("g0,0,1,2,20,7;c0,99,0;r2,0;", 0, 1, 0, 0, 0, 0, 0, 0);
        nightHas("g2,0,1,2,20,7;c0,1,0;p0,5;r2,0;", 0, 2, 0, 0, 0, 0, 0, 0);
        nightHas("g0,0,1,2,20,7;g0,2,3,2,20,7;r2,0;", 0, 1, 0, 0, 18, 9, 0, 0);
    }

    static void promise23NightHasWhatAMouseLeaves() {
        nightHas("g0,0,1,2,6,7;r0,2;", 0, 1, 1, 9, 0, 0, 0, 0);
        nightHas("g0,0,1,2,5,7;r0,2;", 0, 1, 0, 9, 0, 0, 0, 0);
        nightHas("g0,0,1,2,4,7;r0,2;", 0, 1, 0, 8, 0, 0, 0, 0);
        nightHas("g0,0,1,2,3,7;r0,2;", 0, 1, 0, 7, 0, 0, 0, 0);
        nightHas("g0,0,1,2,2,7;r0,2;", 0, 1, 0, 7, 0, 0, 0, 0);
        nightHas("g0,0,1,2,0,7;r0,2;", 0, 1, 0, 7, 0, 0, 0, 0);
        nightHas("g2,0,1,2,20,7;p0,5;r0,2;", 0, 1, 8, 9, 0, 0, 0, 7);
        nightHas("g0,0,1,2,20,9;c0,99,0;r0,2;", 0, 1, 22, 4, 0, 0, 0, 0);
    }

    static void promise23NightHasChangesNothing() {
        edges.stays("nightHas", busy(FIRST + "c0,2,1;r9,9;"), b -> b.nightHas(0, 9, 1));
    }

    // ---- 24 keep

    static void promise24KeepOf2AtMost() {
        Bank bank = Bank.laid(FIRST);
        bank.turn(0);
        edges.due("one", bank.keep(), 1);
        edges.due("one is kept", bank.count(7), 1);
        bank.counted(0, 1, 2);
        edges.due("two", bank.keep(), 2);
        edges.due("two are kept", bank.count(7), 2);
        edges.refused("a third", bank, Bank::keep, FULL);
        bank.pour(0, 0, 0, 1, 5);
        edges.refused("a third, changed", bank, Bank::keep, FULL);
        edges.due("back", bank.back(), 1);
        edges.due("room again", bank.keep(), 2);
        edges.refused("a third again", bank, Bank::keep, FULL);
    }

    static void promise24KeepLeavesTheShelf() {
        Bank bank = Bank.laid(FIRST + "c0,3,1;");
        bank.minutes(3);
        bank.turn(0);
        bank.counted(0, 1, 2);
        String before = Look.shelf(bank);
        bank.keep();
        edges.same("the shelf", Look.shelf(bank).replaceFirst(", 1]", ", 0]"), before);
        edges.due("what can be undone", bank.undo(), 0);
    }

    static void promise24KeepOfWhatIsAlike() {
        Bank bank = new Bank();
        edges.due("one", bank.keep(), 1);
        edges.due("the same", bank.keep(), 2);
        edges.due("back", bank.back(), 1);
        edges.due("back to the same", bank.back(), 0);
        edges.same("as at first", Look.all(bank), Look.all(new Bank()));
    }

    // ---- 25 back

    static void promise25BackOfNone() {
        Bank bank = Bank.laid(FIRST);
        bank.turn(0);
        bank.counted(0, 1, 2);
        edges.refused("nothing kept", bank, Bank::back, NO);
        bank.keep();
        edges.due("of one", bank.back(), 0);
        edges.refused("nothing left", bank, Bank::back, NO);
    }

    static void promise25BackAsKeptLast() {
        Bank bank = Bank.laid("g0,0,1,2,20,0;g1,2,3,1,9,9;c1,2,1;");
        bank.minutes(3);
        bank.counted(0, 1, 19);
        String first = Look.shelf(bank);
        bank.keep();
        bank.minutes(2);
        bank.counted(1, 2, 3);
        String second = Look.shelf(bank);
        bank.keep();
        bank.minutes(50);
        bank.turn(0);
        bank.pour(1, 0, 0, 0, 1);
        bank.counted(0, 9, 1);
        edges.due("back", bank.back(), 1);
        edges.same("as kept second", Look.shelf(bank), second);
        bank.minutes(1);
        bank.counted(0, 5, 5);
        edges.due("back again", bank.back(), 0);
        edges.same("as kept first", Look.shelf(bank), first);
        edges.refused("nothing left", bank, Bank::back, NO);
    }

    static void promise25BackToTheMinuteAndWhatWasCounted() {
        Bank bank = Bank.laid(FIRST);
        bank.keep();
        bank.minutes(999);
        bank.counted(0, 1, 2);
        edges.due("back", bank.back(), 0);
        edges.dueRow("count", Look.counts(bank), 1, 0, 0, 0, 0, 0, 14, 0);
        edges.dueRow("stolen", Look.stolen(bank, 0), 0, NONE, NONE, 0);
        bank.counted(0, 1, 2);
        bank.counted(0, 2, 1);
        bank.keep();
        edges.due("back at once", bank.back(), 0);
        edges.dueRow("all counted", Look.stolen(bank, 0), 19, 1, NONE, 0);
    }

    static void promise25BackLeavesTheText() {
        Bank bank = Bank.laid(FIRST);
        bank.keep();
        bank.tell("c0,1,0;");
        edges.due("back", bank.back(), 0);
        edges.due("the text", bank.count(6), 21);
        edges.due("laid", bank.lay(), 1);
        edges.due("with a clerk", bank.count(1), 1);
    }

    static void promise25BackOfNothingBehindLay() {
        Bank bank = Bank.laid(FIRST);
        bank.keep();
        bank.keep();
        bank.lay();
        edges.refused("nothing kept", bank, Bank::back, NO);
        edges.due("room for two", bank.keep(), 1);
        edges.due("and the second", bank.keep(), 2);
    }

    static void promise25BackIsThereBehindARefusedLay() {
        Bank bank = Bank.laid(FIRST);
        bank.turn(0);
        bank.keep();
        bank.turn(0);
        bank.wipe();
        edges.refused("lay", bank, Bank::lay, NO);
        edges.due("back", bank.back(), 0);
        edges.due("as kept", bank.glass(0, 2), 1);
    }

    // ---- 26 count

    static void promise26CountOfWhatIsTold() {
        edges.range("what", busy(FIRST), Bank::count, 0, 1, 7, 1);
    }

    static void promise26CountFromTheLeast() {
        edges.dueRow("count", Look.counts(new Bank()), 1, 0, 0, 0, 0, 0, 0, 0);
    }

    static void promise26CountUpToTheMost() {
        String text = FIRST.repeat(8) + "y0,1;".repeat(8) + "c7,99,99;".repeat(8) + "p7,5;".repeat(8)
                + "r099,099;".repeat(4) + "r1,1;".repeat(20);
        Bank bank = Bank.laid(text);
        bank.minutes(999);
        bank.keep();
        bank.keep();
        for (int k = 0; k < 9; k++) {
            bank.turn(0);
        }
        for (int k = 0; k < 13; k++) {
            bank.counted(0, 0, 0);
        }
        edges.refused("a third kept", bank, Bank::keep, FULL);
        edges.dueRow("count", Look.counts(bank), 8, 8, 8, 999, 8, 12, 400, 2);
    }

    static void promise26CountIsOfWhatIsLaid() {
        Bank bank = Bank.laid(FIRST);
        bank.tell(FIRST + "y0,1;c0,1,1;");
        edges.dueRow("not laid yet", Look.counts(bank), 1, 0, 0, 0, 0, 0, 40, 0);
        bank.fault();
        edges.dueRow("only read", Look.counts(bank), 1, 0, 0, 0, 0, 0, 40, 0);
        bank.lay();
        edges.dueRow("laid", Look.counts(bank), 2, 1, 1, 0, 0, 0, 40, 0);
        bank.wipe();
        edges.dueRow("wiped", Look.counts(bank), 2, 1, 1, 0, 0, 0, 0, 0);
    }

    static void promise26CountChangesNothing() {
        for (int k = 0; k < 8; k++) {
            int what = k;
            edges.stays("count", busy(FIRST), b -> b.count(what));
        }
    }
}
