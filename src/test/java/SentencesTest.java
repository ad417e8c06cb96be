import java.util.List;
import java.util.function.ToIntFunction;

/**
 * The document's terms once more from its first line, each asked of every call that rests on it:
 * what is tied, what is damp or wide, a partner's half, a shelf that was turned, and now, in a
 * minute that is not the first. Every answer was worked out by hand.
 */
public final class SentencesTest {
    private static final int NONE = Edges.NONE;
    private static final int EVEN = 100000;
    private static final String FIRST = "g0,0,1,2,20,0;";
    /** Its clerk turns in minutes 1, 5, 9, ..; in minute 3 B's bulb is up, and empty. */
    private static final String TURNED_IN_5 = FIRST + "c0,4,1;";
    /** In minute 2 they hold 92 and 8, 84 and 16 grains; nothing falls in it. */
    private static final String DAMP_AND_WIDE = "g1,0,1,4,100,0;g3,2,3,4,100,0;";

    private static final Edges edges = new Edges();

    public static void main(String[] args) {
        edges.runSome(SentencesTest.class);
    }

    private static Bank in(int minute, String text) {
        Bank bank = Bank.laid(text);
        edges.due("minutes", bank.minutes(minute), minute);
        return bank;
    }

    private static void later(Bank bank, int t, int... want) {
        edges.dueRow("later " + t, Look.later(bank, t), want);
    }

    // ---- 1 a new object

    static void promise01NewObjectsAreApart() {
        Bank one = Bank.laid("g2,0,1,3,30,5;" + FIRST + "y0,1;c0,3,1;p0,4;r9,9;");
        Bank alone = one.twin();
        Bank other = Bank.laid("g1,3,2,7,99,99;g3,4,5,9,50,50;c1,2,0;r99,99;");
        for (Bank bank : List.of(one, other)) {
            bank.minutes(4);
            bank.turn(0);
            bank.pour(0, 1, 1, 0, 2);
            bank.counted(1, 2, 3);
            bank.keep();
        }
        other.round(2, 9, 0);
        other.night(1, 50, 0);
        other.gains(0, 3, 9, 0);
        alone.minutes(4);
        alone.turn(0);
        alone.pour(0, 1, 1, 0, 2);
        alone.counted(1, 2, 3);
        alone.keep();
        edges.same("one beside another", Look.all(one), Look.all(alone));
    }

    /** Calls that only look: in whatever order they come, each answers the same. */
    static void promise01NewObjectAnswersTheSameInAnyOrder() {
        List<ToIntFunction<Bank>> looks = List.of(b -> b.later(7, 0), b -> b.falls(9, 1, 0),
                b -> b.empty(20), b -> b.late(0, 5, 9, 1), b -> b.gains(1, 7, 12, 0),
                b -> b.run(2), b -> b.round(2, 9, -1), b -> b.round(2, 9, 1), b -> b.split(97, 4),
                b -> b.night(3984, 30, 0), b -> b.night(3984, 30, 1), b -> b.nightHas(3633, 9, 0),
                b -> b.stolen(0, 1), b -> b.fault(), b -> b.has(4), b -> b.glass(1, 0));
        Bank bank = in(4, "g2,0,1,3,30,5;g1,2,3,4,50,9;y0,1;c0,3,1;c1,5,0;p0,4;r9,9;");
        bank.turn(1);
        bank.counted(0, 3, 34);
        int[] once = Look.row(looks.size(), k -> looks.get(k).applyAsInt(bank));
        for (int first = 0; first < looks.size(); first++) {
            for (int second = 0; second < looks.size(); second++) {
                Bank asked = bank.twin();
                edges.due("look " + first, looks.get(first).applyAsInt(asked), once[first]);
                edges.due("look " + second + " behind " + first,
                        looks.get(second).applyAsInt(asked), once[second]);
            }
        }
    }

    // ---- 12 later

    static void promise12LaterOfWhatIsTied() {
        Bank bank = Bank.laid("g0,0,1,2,20,6;g0,2,3,3,10,9;y0,1;c0,99,1;");
        later(bank, 1, 18, 8, 7, 12, 0, 0);
        later(bank, 2, 20, 6, 10, 9, 0, 0);
        Bank back = Bank.laid("g0,0,1,2,20,6;g0,2,3,3,10,9;y0,1;c1,99,1;");
        later(back, 2, 16, 10, 10, 9, 0, 0);
    }

    static void promise12LaterOfDampSandFromNowOn() {
        Bank bank = in(2, DAMP_AND_WIDE);
        later(bank, 0, 92, 8, 84, 16, 0, 0);
        later(bank, 1, 92, 8, 84, 16, 0, 0);
        later(bank, 2, 88, 12, 76, 24, 0, 0);
        later(bank, 3, 84, 16, 68, 32, 0, 0);
        later(bank, 4, 84, 16, 68, 32, 0, 0);
    }

    static void promise12LaterOfClerksFromNowOn() {
        Bank bank = in(3, TURNED_IN_5);
        later(bank, 2, 20, 0, 0, 0, 0, 0);
        later(bank, 3, 18, 2, 0, 0, 0, 0);
        later(bank, 6, 12, 8, 0, 0, 0, 0);
        later(bank, 7, 14, 6, 0, 0, 0, 0);
    }

    /** Of 21, 16 and 11 grains in A's bulb one half, cut, is the partner's. */
    static void promise12LaterOfAPartnersHalf() {
        Bank bank = Bank.laid("g2,0,1,5,21,3;p0,4;");
        later(bank, 0, 11, 3, 0, 0, 10, 0);
        later(bank, 1, 8, 8, 0, 0, 8, 0);
        later(bank, 2, 6, 13, 0, 0, 5, 0);
        later(bank, 5, 0, 24, 0, 0, 0, 0);
    }

    // ---- 13 falls

    static void promise13FallsOfEachKind() {
        Bank bank = Bank.laid("g0,0,5,4,99,0;g1,1,5,4,99,0;g2,2,5,4,99,0;g3,3,5,4,99,0;");
        edges.dueRow("in 1", Look.row(4, i -> bank.falls(1, i, 0)), 4, 4, 4, 8);
        edges.dueRow("in 2", Look.row(4, i -> bank.falls(2, i, 0)), 8, 8, 8, 16);
        edges.dueRow("in 3", Look.row(4, i -> bank.falls(3, i, 0)), 12, 8, 12, 16);
        edges.dueRow("in 4", Look.row(4, i -> bank.falls(4, i, 0)), 16, 12, 16, 24);
    }

    static void promise13FallsOfWhatIsTied() {
        Bank bank = Bank.laid("g0,0,1,2,20,6;g0,2,3,3,10,9;y0,1;c0,99,1;");
        edges.due("ahead of the clerk", bank.falls(1, 1, 1), 0);
        edges.due("out of A's of 1", bank.falls(3, 1, 0), 3);
        edges.due("out of B's of 1", bank.falls(3, 1, 1), 6);
        edges.due("out of B's of 0", bank.falls(3, 0, 1), 4);
        Bank back = Bank.laid("g0,0,1,2,20,6;g0,2,3,3,10,9;y0,1;c1,99,1;");
        edges.due("0 is not tied to 1", back.falls(3, 0, 1), 0);
        edges.due("0 goes on", back.falls(3, 0, 0), 6);
        edges.due("1 is turned", back.falls(3, 1, 1), 6);
    }

    static void promise13FallsFromNowOn() {
        Bank clerk = in(3, TURNED_IN_5);
        edges.due("ahead of the turn", clerk.falls(2, 0, 0), 0);
        edges.due("behind it", clerk.falls(3, 0, 0), 2);
        edges.due("ahead of the next", clerk.falls(6, 0, 0), 8);
        edges.due("not yet out of B's", clerk.falls(6, 0, 1), 0);
        edges.due("out of B's", clerk.falls(7, 0, 1), 2);
        Bank damp = in(2, DAMP_AND_WIDE);
        edges.dueRow("damp", Look.row(6, t -> damp.falls(t, 0, 0)), 0, 0, 4, 8, 8, 12);
        edges.dueRow("wide", Look.row(6, t -> damp.falls(t, 1, 0)), 0, 0, 8, 16, 16, 24);
    }

    static void promise13FallsOfATurnedShelf() {
        Bank bank = Bank.laid("g0,0,1,2,20,5;");
        bank.turn(0);
        edges.due("out of A's", bank.falls(9, 0, 0), 0);
        edges.due("out of B's", bank.falls(2, 0, 1), 4);
        edges.due("no more than there are", bank.falls(9, 0, 1), 5);
    }

    // ---- 14 empty

    /** Turned in minute 1, glass 1 has one grain above, and stands from minute 2 on. */
    static void promise14EmptyOfWhatIsTied() {
        Bank bank = Bank.laid("g0,0,1,1,9,9;g0,0,1,1,9,0;y0,1;c0,99,1;");
        edges.dueRow("tied", Look.row(5, bank::empty), 0, 0, 0, 1, 2);
        Bank loose = Bank.laid("g0,0,1,1,9,9;g0,0,1,1,9,0;c0,99,1;");
        edges.dueRow("not tied", Look.row(5, loose::empty), 0, 0, 0, 0, 0);
    }

    static void promise14EmptyOfDampSandFromNowOn() {
        Bank bank = Bank.laid("g1,0,1,4,12,0;");
        edges.dueRow("from minute 0", Look.row(7, bank::empty), 0, 0, 0, 0, 0, 1, 2);
        bank.minutes(2);
        edges.dueRow("from minute 2", Look.row(5, bank::empty), 0, 0, 0, 1, 2);
    }

    static void promise14EmptyOfClerksFromNowOn() {
        Bank bank = in(3, TURNED_IN_5);
        edges.dueRow("from minute 3", Look.row(6, bank::empty), 0, 1, 2, 2, 2, 2);
        edges.due("never again", bank.empty(20000), 2);
    }

    static void promise14EmptyOfATurnedShelf() {
        Bank bank = Bank.laid("g0,0,1,2,20,3;");
        bank.turn(0);
        edges.dueRow("turned", Look.row(5, bank::empty), 0, 0, 0, 1, 2);
        bank.undo();
        edges.due("turned back", bank.empty(10), 0);
    }

    // ---- 15 late

    /** In time 24 grains come to A's bulb; late they go on out of it, by 5 a minute. */
    static void promise15LateOfAPartnersHalf() {
        Bank bank = Bank.laid("g2,0,1,5,21,3;p0,4;c0,99,0;");
        edges.dueRow("behind 1", Look.row(6, h -> bank.late(0, 99, 1, h)),
                EVEN - 4, EVEN + 8, EVEN, EVEN, EVEN - 4, EVEN);
        edges.dueRow("behind 2", Look.row(6, h -> bank.late(0, 99, 2, h)),
                EVEN - 6, EVEN + 13, EVEN, EVEN, EVEN - 7, EVEN);
    }

    static void promise15LateOfOneClerkOfTwo() {
        Bank bank = Bank.laid(FIRST + "c0,99,0;c0,99,1;");
        edges.due("in time: turned, turned back", bank.later(2, 0), 18);
        edges.due("the first late: turned in 1", bank.late(0, 9, 2, 0), EVEN + 2);
        edges.due("the second late: turned in 0", bank.late(1, 9, 2, 0), EVEN + 2);
        edges.due("the first by one: turned twice in 1", bank.late(0, 1, 2, 0), EVEN - 2);
    }

    // ---- 16 gains

    static void promise16GainsOfAPartner() {
        Bank bank = Bank.laid("g2,0,1,10,0,40;g2,2,1,10,0,40;y0,1;p0,5;p1,5;c0,99,0;");
        edges.due("both are turned", bank.turn(0), 2);
        edges.due("a half of each", bank.gains(0, 1, 1, 0), 5);
        edges.due("how much", bank.gains(0, 1, 1, 1), EVEN + 10);
    }

    static void promise16GainsOfClerksFromNowOn() {
        Bank bank = in(3, TURNED_IN_5);
        edges.due("not seen yet", bank.gains(0, 1, 2, 1), EVEN);
        edges.due("turned in 6", bank.gains(0, 1, 3, 0), 0);
        edges.due("turned in 6, how much", bank.gains(0, 1, 3, 1), EVEN + 2);
        edges.due("turned in 4", bank.gains(0, 3, 3, 0), 1);
        edges.due("turned in 4, how much", bank.gains(0, 3, 3, 1), EVEN + 2);
        edges.due("turned in 5 all the same", bank.gains(0, 4, 3, 1), EVEN);
    }

    static void promise16GainsOfDampSandFromNowOn() {
        Bank bank = in(2, "g1,0,1,4,12,8;c0,99,3;");
        edges.due("nothing falls in 2", bank.gains(0, 1, 1, 1), EVEN);
        for (int t = 2; t <= 4; t++) {
            edges.due("who, behind " + t, bank.gains(0, 1, t, 0), 1);
            edges.due("how much, behind " + t, bank.gains(0, 1, t, 1), EVEN + 8);
        }
    }

    // ---- 17 run

    static void promise17RunOfATurnedShelf() {
        Bank bank = Bank.laid("g0,0,1,2,20,5;g1,2,3,1,9,4;y1,0;");
        edges.dueRow("as told", Look.row(3, bank::run), 0, 10, 13);
        bank.turn(0);
        edges.dueRow("one turned", Look.row(3, bank::run), 0, 3, 13);
        bank.turn(1);
        edges.dueRow("both turned, one of them back", Look.row(3, bank::run), 1, 5, 10);
        bank.pour(0, 0, 0, 1, 20);
        edges.dueRow("poured", Look.row(3, bank::run), 0, 0, 5);
        bank.undo();
        edges.dueRow("poured back", Look.row(3, bank::run), 1, 5, 10);
    }

    static void promise17RunOfEachKind() {
        Bank bank = Bank.laid("g0,0,5,4,24,0;g1,1,5,4,24,0;g2,2,5,4,20,0;g3,3,5,4,40,0;");
        edges.dueRow("from minute 0", Look.row(3, bank::run), 2, 5, 8);
        bank.pour(2, 0, 2, 1, 20);
        bank.minutes(2);
        edges.dueRow("from minute 2", Look.row(3, bank::run), 2, 0, 6);
    }

    // ---- 18 round

    /** Turned up in minute 2, nothing falls: turned down in 3, nothing is above. */
    static void promise18RoundOfWideSandFromNowOn() {
        Bank bank = in(2, "g3,0,1,1,2,2;");
        edges.dueRow("how often", Look.row(6, n -> bank.round(1, n + 1, -1)), 0, 1, 1, 1, 1, 1);
        Bank first = Bank.laid("g3,0,1,1,0,4;");
        edges.dueRow("from minute 0", Look.row(6, n -> first.round(1, n + 1, -1)), 0, 0, 0, 1, 1, 1);
    }

    static void promise18RoundOfATurnedShelf() {
        Bank bank = Bank.laid("g0,0,1,1,0,9;");
        edges.due("as told", bank.round(1, 1, -1), 0);
        bank.turn(0);
        edges.due("turned", bank.round(1, 1, -1), 1);
        edges.due("turned, then again", bank.round(1, 2, -1), 1);
    }

    /** 2 must be turned first, and, as its sand is damp, not again: then 0 or 1, and 0 is taken. */
    static void promise18RoundOfSeveralTheFirstByTheSecond() {
        Bank bank = in(2, "g0,0,1,1,9,9;g0,0,1,1,9,9;g1,0,1,1,0,9;");
        edges.dueRow("in 2", Look.row(3, i -> bank.round(2, 2, i - 1)), 0, 2, 0);
        Bank next = Bank.laid("g0,0,1,1,9,0;g0,0,1,1,1,9;g0,0,1,1,0,9;");
        edges.dueRow("1 in minute 1", Look.row(3, i -> next.round(2, 2, i - 1)), 0, 2, 1);
        edges.dueRow("any in minute 2", Look.row(4, i -> next.round(3, 2, i - 1)), 0, 2, 1, 0);
    }

    // ---- 20 stolen

    static void promise20StolenIsByWhatIsLaidLast() {
        Bank bank = Bank.laid(FIRST);
        bank.counted(0, 1, 19);
        bank.wipe();
        bank.tell("g0,0,1,2,5,6;");
        edges.due("read", bank.fault(), NONE);
        edges.dueRow("not laid yet", Look.stolen(bank, 0), 1, 1, NONE, 0);
        bank.lay();
        edges.dueRow("nothing counted", Look.stolen(bank, 0), 0, NONE, NONE, 0);
        bank.counted(0, 7, 11);
        bank.counted(0, 8, 10);
        edges.dueRow("of 11", Look.stolen(bank, 0), 1, 8, 7, 0);
    }

    // ---- 21 split

    /** They have 11, 3 and 10 of 24. */
    static void promise21SplitOfAPartnersHalf() {
        Bank bank = Bank.laid("g2,0,1,5,21,3;p0,4;");
        edges.dueRow("of 24", Look.split(bank, 24), 11, 3, 0, 0, 10, 0);
        edges.dueRow("of 12", Look.split(bank, 12), 6, 1, 0, 0, 5, 0);
        edges.dueRow("of 7", Look.split(bank, 7), 3, 1, 0, 0, 3, 0);
    }

    // ---- 22 night

    /** By 3984 glass 0 draws 7 and glass 1 draws 16 in the first minute. */
    static void promise22NightLosesToMiceAndBreakageTogether() {
        Bank bank = Bank.laid("g0,0,1,2,20,7;g0,2,3,2,9,4;r10,10;");
        edges.due("lost", bank.night(3984, 1, 0), 30);
        edges.due("broken", bank.night(3984, 1, 1), 1);
        edges.dueRow("left", Look.nightHas(bank, 3984, 1), 0, 0, 4, 6, 0, 0);
    }

    /** By 3633 it draws 10 and 0, by 3931 it draws 13, 14 and 907. */
    static void promise22NightLosesMinuteByMinute() {
        Bank bank = Bank.laid("g0,0,1,2,20,7;r10,10;");
        edges.due("a mouse", bank.night(3633, 1, 0), 3);
        edges.due("a mouse breaks none", bank.night(3633, 1, 1), 0);
        edges.due("broken then: all is lost", bank.night(3633, 2, 0), 27);
        edges.due("broken then", bank.night(3633, 2, 1), 1);
        edges.due("two mice", bank.night(3931, 2, 0), 6);
        edges.due("no third", bank.night(3931, 3, 0), 6);
        edges.dueRow("what two mice leave", Look.nightHas(bank, 3931, 2), 10, 11, 0, 0, 0, 0);
        edges.dueRow("and then", Look.nightHas(bank, 3931, 3), 8, 13, 0, 0, 0, 0);
    }

    /** Glass 0 is tied to 1, which the clerk turns: the mouse finds B's bulb up. */
    static void promise22NightOfWhatIsTied() {
        Bank bank = Bank.laid("g0,0,1,2,0,5;g0,2,3,2,9,9;y1,0;c1,99,0;r0,2;");
        edges.due("lost", bank.night(0, 1, 0), 3);
        edges.dueRow("left", Look.nightHas(bank, 0, 1), 2, 0, 11, 7, 0, 0);
        edges.due("not tied", Bank.laid("g0,0,1,2,0,5;g0,2,3,2,9,9;c1,99,0;r0,2;").night(0, 1, 0), 0);
    }

    static void promise22NightOfATurnedShelf() {
        Bank bank = Bank.laid("g0,0,1,2,20,1;r0,2;");
        edges.due("of A's bulb", bank.night(0, 1, 0), 3);
        bank.turn(0);
        edges.due("of B's bulb", bank.night(0, 1, 0), 1);
    }

    // ---- 23 nightHas

    /** In minute 3 the mouse finds nothing above; in 5 the clerk turns. */
    static void promise23NightHasOfClerksFromNowOn() {
        Bank bank = in(3, TURNED_IN_5 + "r0,2;");
        edges.due("nothing is lost", bank.night(0, 3, 0), 0);
        edges.dueRow("ahead of the turn", Look.nightHas(bank, 0, 2), 20, 0, 0, 0, 0, 0);
        edges.dueRow("behind it", Look.nightHas(bank, 0, 3), 18, 2, 0, 0, 0, 0);
    }

    static void promise23NightHasOfDampSandFromNowOn() {
        Bank bank = in(2, DAMP_AND_WIDE + "r0,2;");
        edges.dueRow("in 2", Look.nightHas(bank, 0, 1), 89, 8, 84, 16, 0, 0);
        edges.dueRow("in 3", Look.nightHas(bank, 0, 2), 85, 12, 76, 24, 0, 0);
        edges.dueRow("in 5", Look.nightHas(bank, 0, 4), 81, 16, 68, 32, 0, 0);
    }

    // ---- 25 back

    /** What comes back goes on from its own minute: its clerks, and its damp sand. */
    static void promise25BackGoesOnFromItsMinute() {
        Bank bank = in(2, DAMP_AND_WIDE + "c0,9,4;");
        bank.keep();
        bank.minutes(5);
        edges.due("back", bank.back(), 0);
        edges.due("nothing falls in 2", bank.minutes(1), 3);
        edges.dueRow("in 3", Look.has(bank), 92, 8, 84, 16, 0, 0);
        edges.due("on", bank.minutes(1), 4);
        edges.dueRow("in 4", Look.has(bank), 88, 12, 76, 24, 0, 0);
        edges.due("turned in 4", bank.minutes(1), 5);
        edges.dueRow("in 5", Look.has(bank), 92, 8, 68, 32, 0, 0);
    }
}
