/** The edges of promises 12 to 18: what comes later, a late clerk, a run, a round. */
public final class LaterEdgesTest {
    private static final int BAD = Edges.BAD;
    private static final int EVEN = 100000;
    private static final String FIRST = "g0,0,1,2,20,0;";
    private static final String NOTHING = "g0,0,1,1,0,0;";

    private static final Edges edges = new Edges();

    public static void main(String[] args) {
        edges.run(LaterEdgesTest.class, 12, 18);
    }

    private static Bank busy(String text) {
        Bank bank = Bank.laid(text);
        bank.counted(0, 3, 4);
        bank.keep();
        bank.turn(0);
        bank.turn(0);
        return bank;
    }

    // ---- 12 later

    static void promise12LaterBehind0To20000() {
        Bank bank = busy("g0,0,1,2,20,9;");
        edges.range("minutes", bank, (b, t) -> b.later(t, 0), 0, 20, 20000, 0);
        edges.due("1", bank.later(1, 0), 18);
        edges.due("9", bank.later(9, 0), 2);
        edges.due("10", bank.later(10, 0), 0);
        edges.due("11", bank.later(11, 0), 0);
        edges.due("19999", bank.later(19999, 1), 29);
    }

    static void promise12LaterOfHands0To5() {
        Bank bank = busy("g0,0,5,2,20,9;");
        edges.range("hand", bank, (b, h) -> b.later(1, h), 0, 18, 5, 11);
        edges.range("hand now", bank, (b, h) -> b.later(0, h), 0, 20, 5, 9);
        edges.refused("neither", bank, b -> b.later(20001, 6), BAD);
    }

    static void promise12LaterIsAsTheMinutesGoBy() {
        String text = "g2,0,1,3,99,0;g1,1,2,5,50,60;g3,3,4,7,200,1;y0,1;c0,3,1;c2,7,0;p0,5;";
        Bank bank = Bank.laid(text);
        bank.minutes(4);
        for (int t : new int[] {1, 2, 3, 98, 99, 998, 999}) {
            Bank gone = bank.twin();
            gone.minutes(t);
            for (int h = 0; h < 6; h++) {
                edges.due("hand " + h + " behind " + t, bank.later(t, h), gone.has(h));
            }
        }
    }

    /** In minute 19999, the last one of 20000, the clerk turns: 19999 is 1 and 99 times 202. */
    static void promise12LaterOfTheLastMinutes() {
        Bank each = Bank.laid("g0,0,1,1,5,0;c0,1,0;");
        edges.due("each, 19998", each.later(19998, 0), 4);
        edges.due("each, 19999", each.later(19999, 0), 5);
        edges.due("each, 20000", each.later(20000, 0), 4);
        Bank slow = Bank.laid("g0,0,1,1,0,1;c0,99,1;");
        edges.due("slow, 1", slow.later(1, 0), 0);
        edges.due("slow, 2", slow.later(2, 0), 1);
        edges.due("slow, 19999", slow.later(19999, 0), 0);
        edges.due("slow, 20000", slow.later(20000, 0), 1);
    }

    static void promise12LaterChangesNothing() {
        edges.stays("later", busy(FIRST + "c0,2,1;"), b -> b.later(7, 0));
    }

    // ---- 13 falls

    static void promise13FallsIn0To20000() {
        Bank bank = busy("g0,0,1,2,21,9;");
        edges.range("minutes", bank, (b, t) -> b.falls(t, 0, 0), 0, 0, 20000, 21);
        edges.due("1", bank.falls(1, 0, 0), 2);
        edges.due("10", bank.falls(10, 0, 0), 20);
        edges.due("11, no more than there are", bank.falls(11, 0, 0), 21);
        edges.due("12", bank.falls(12, 0, 0), 21);
    }

    static void promise13FallsOfSuchAsThereAre() {
        edges.range("of one", busy(FIRST), (b, i) -> b.falls(3, i, 0), 0, 6, 0, 6);
        Bank eight = busy("g0,0,1,3,99,0;" + FIRST.repeat(6) + "g0,0,1,4,99,0;");
        edges.range("of eight", eight, (b, i) -> b.falls(3, i, 0), 0, 9, 7, 12);
    }

    static void promise13FallsOutOfABulb() {
        Bank bank = busy("g0,0,1,2,20,9;c0,3,2;");
        edges.range("bulb", bank, (b, s) -> b.falls(4, 0, s), 0, 4, 1, 4);
        edges.due("not yet turned", bank.falls(2, 0, 1), 0);
        edges.due("turned", bank.falls(3, 0, 1), 2);
        edges.due("turned back", bank.falls(6, 0, 0), 6);
        edges.refused("none", bank, b -> b.falls(20001, 1, 2), BAD);
    }

    /** Turned each minute: of six, two fall out of each bulb, and two are damp. */
    static void promise13FallsOfTheMostGrains() {
        Bank bank = Bank.laid("g3,0,1,60,999,999;c0,1,0;");
        edges.due("wide, out of A's", bank.falls(20000, 0, 0), 3333 * 240 + 120);
        edges.due("wide, out of B's", bank.falls(20000, 0, 1), 3333 * 240 + 120);
    }

    static void promise13FallsChangesNothing() {
        edges.stays("falls", busy(FIRST + "c0,2,1;"), b -> b.falls(7, 0, 1));
    }

    // ---- 14 empty

    static void promise14EmptyIn0To20000() {
        Bank bank = busy(NOTHING);
        edges.range("minutes", bank, Bank::empty, 0, 0, 20000, 20000);
        edges.due("1", bank.empty(1), 1);
        edges.due("19999", bank.empty(19999), 19999);
    }

    /** The last grain falls in a minute in which its glass does not stand yet. */
    static void promise14EmptyIsSeenAheadOfTheSand() {
        edges.due("none", Bank.laid("g0,0,1,2,0,5;").empty(1), 1);
        edges.due("one", Bank.laid("g0,0,1,2,1,5;").empty(1), 0);
        edges.due("one, then", Bank.laid("g0,0,1,2,1,5;").empty(2), 1);
        edges.due("two, then", Bank.laid("g0,0,1,2,2,5;").empty(2), 1);
        edges.due("three, then", Bank.laid("g0,0,1,2,3,5;").empty(2), 0);
        edges.due("three, then again", Bank.laid("g0,0,1,2,3,5;").empty(3), 1);
    }

    static void promise14EmptyIsSeenBehindTheClerks() {
        edges.due("turned to sand", Bank.laid("g0,0,1,2,0,5;c0,99,0;").empty(1), 0);
        edges.due("turned from sand", Bank.laid("g0,0,1,2,5,0;c0,99,0;").empty(1), 1);
        edges.due("a minute late", Bank.laid("g0,0,1,2,0,5;c0,99,1;").empty(2), 1);
    }

    static void promise14EmptyCountsAMinuteOnce() {
        edges.due("eight stand", Bank.laid(NOTHING.repeat(8)).empty(5), 5);
        edges.due("the last stands", Bank.laid(FIRST.repeat(7) + NOTHING).empty(5), 5);
        edges.due("none stands", Bank.laid(FIRST.repeat(8)).empty(10), 0);
        edges.due("all stand then", Bank.laid(FIRST.repeat(8)).empty(11), 1);
    }

    static void promise14EmptyChangesNothing() {
        edges.stays("empty", busy(FIRST + "c0,2,1;"), b -> b.empty(7));
    }

    // ---- 15 late

    static void promise15LateOfSuchClerksAsThereAre() {
        edges.range("of one", busy(FIRST + "c0,9,1;"), (b, k) -> b.late(k, 1, 2, 0),
                0, EVEN - 4, 0, EVEN - 4);
        Bank eight = busy(FIRST + "g0,0,1,3,20,0;c0,9,1;" + "c1,9,9;".repeat(6) + "c1,9,0;");
        edges.range("of eight", eight, (b, k) -> b.late(k, 2, 2, 0), 0, EVEN - 4, 7, EVEN - 6);
        edges.refused("of none", busy(FIRST), b -> b.late(0, 0, 0, 0), BAD);
    }

    static void promise15LateBy0To99() {
        Bank bank = busy("g0,0,1,1,999,0;c0,99,0;");
        edges.range("late", bank, (b, m) -> b.late(0, m, 100, 0), 0, EVEN, 99, EVEN - 97);
        edges.due("1", bank.late(0, 1, 100, 0), EVEN + 1);
        edges.due("98", bank.late(0, 98, 98, 0), EVEN - 98);
    }

    static void promise15LateBehind0To20000() {
        Bank bank = busy("g0,0,1,2,20,0;c0,99,0;");
        edges.range("minutes", bank, (b, t) -> b.late(0, 1, t, 1), 0, EVEN, 20000, EVEN + 2);
        edges.due("1", bank.late(0, 1, 1, 1), EVEN + 2);
        edges.due("2", bank.late(0, 1, 2, 1), EVEN);
    }

    static void promise15LateOfHands0To5() {
        Bank bank = busy("g0,0,5,2,20,0;c0,99,0;");
        edges.range("hand", bank, (b, h) -> b.late(0, 9, 3, h), 0, EVEN - 6, 5, EVEN + 6);
        edges.refused("nothing as told", bank, b -> b.late(1, 100, 20001, 6), BAD);
    }

    /** Eight glasses of 999 grains in each bulb, all tied: the most that may be less, or more. */
    static void promise15LateMayBeFarBelow0() {
        StringBuilder text = new StringBuilder("g0,0,1,60,999,0;".repeat(8));
        for (int i = 0; i < 7; i++) {
            text.append("y").append(i).append(',').append(i + 1).append(';');
        }
        Bank bank = Bank.laid(text + "c0,99,0;");
        edges.due("less", bank.late(0, 99, 17, 0), EVEN - 7992);
        edges.due("more", bank.late(0, 99, 17, 1), EVEN + 7992);
        edges.due("one minute ahead", bank.late(0, 99, 16, 0), EVEN - 7680);
    }

    static void promise15LateIsFromNowOn() {
        Bank bank = Bank.laid("g0,0,1,1,50,0;c0,9,1;");
        bank.minutes(2);
        edges.due("he has turned it", bank.glass(0, 2), 1);
        edges.due("turned again in 3", bank.late(0, 2, 1, 0), EVEN);
        edges.due("turned again in 3, seen in 4", bank.late(0, 2, 2, 0), EVEN - 1);
        edges.due("not late", bank.late(0, 0, 2, 0), EVEN);
    }

    static void promise15LateChangesNothing() {
        edges.stays("late", busy(FIRST + "c0,2,1;"), b -> b.late(0, 7, 9, 1));
        edges.due("a late one is not late then", twice(), EVEN + 2);
    }

    private static int twice() {
        Bank bank = Bank.laid(FIRST + "c0,99,0;");
        bank.late(0, 99, 20, 1);
        return bank.late(0, 1, 1, 1);
    }

    // ---- 16 gains

    static void promise16GainsOfSuchClerksAsThereAre() {
        edges.range("of one", busy(FIRST + "c0,9,1;"), (b, k) -> b.gains(k, 1, 2, 1),
                0, EVEN + 4, 0, EVEN + 4);
        Bank eight = busy(FIRST + "g0,0,1,3,20,0;c0,9,1;" + "c1,9,9;".repeat(6) + "c1,9,0;");
        edges.range("of eight", eight, (b, k) -> b.gains(k, 2, 2, 1), 0, EVEN + 4, 7, EVEN + 6);
        edges.refused("of none", busy(FIRST), b -> b.gains(0, 0, 0, 0), BAD);
    }

    static void promise16GainsOfLateBy0To99() {
        Bank bank = busy("g0,0,1,1,999,0;c0,99,0;");
        edges.range("late", bank, (b, m) -> b.gains(0, m, 99, 1), 0, EVEN, 99, EVEN + 99);
        edges.due("1", bank.gains(0, 1, 99, 1), EVEN);
    }

    static void promise16GainsBehind0To20000() {
        Bank bank = busy("g0,0,1,2,20,0;c0,99,0;");
        edges.range("minutes", bank, (b, t) -> b.gains(0, 1, t, 0), 0, 0, 20000, 1);
        edges.due("1", bank.gains(0, 1, 1, 0), 1);
        edges.due("2", bank.gains(0, 1, 2, 0), 0);
    }

    static void promise16GainsAnswersWhatIsTold() {
        Bank bank = busy("g0,0,5,2,20,0;c0,99,0;");
        edges.range("what", bank, (b, what) -> b.gains(0, 9, 3, what), 0, 5, 1, EVEN + 6);
        edges.refused("nothing as told", bank, b -> b.gains(1, 100, 20001, 2), BAD);
    }

    static void promise16GainsOfSeveralTheLowest() {
        Bank all = Bank.laid("g0,5,4,2,20,0;g0,5,2,2,20,0;g0,5,3,3,20,0;y0,1;y1,2;c0,99,0;");
        edges.due("the most", all.gains(0, 9, 1, 0), 3);
        edges.due("how much", all.gains(0, 9, 1, 1), EVEN + 3);
        Bank two = Bank.laid("g0,5,4,2,20,0;g0,5,2,2,20,0;g0,5,3,1,20,0;y0,1;y1,2;c0,99,0;");
        edges.due("two alike", two.gains(0, 9, 1, 0), 2);
        edges.due("two alike, how much", two.gains(0, 9, 1, 1), EVEN + 2);
        Bank first = Bank.laid("g0,5,0,2,20,0;g0,4,1,2,20,0;y0,1;c0,99,0;");
        edges.due("the first hand", first.gains(0, 9, 1, 0), 0);
        Bank none = Bank.laid("g0,3,4,2,20,0;c0,99,0;");
        edges.due("none gains: the lowest", none.gains(0, 0, 9, 0), 0);
        edges.due("none gains", none.gains(0, 0, 9, 1), EVEN);
        edges.due("at once", none.gains(0, 9, 0, 0), 0);
    }

    static void promise16GainsChangesNothing() {
        edges.stays("gains", busy(FIRST + "c0,2,1;"), b -> b.gains(0, 7, 9, 1));
    }

    // ---- 17 run

    private static void run(String text, int gone, int first, int soonest, int longest) {
        Bank bank = Bank.laid(text);
        if (gone > 0) {
            bank.minutes(gone);
        }
        edges.dueRow(text + " in " + gone, Look.row(3, bank::run), first, soonest, longest);
    }

    static void promise17RunAnswersWhatIsTold() {
        Bank bank = busy("g0,0,1,2,20,0;g0,0,1,2,8,0;");
        edges.range("what", bank, Bank::run, 0, 1, 2, 10);
        edges.due("behind", bank.run(1), 4);
    }

    static void promise17RunBehind0IsNow() {
        run("g0,0,1,3,0,9;", 0, 0, 0, 0);
        run("g0,0,1,3,1,9;", 0, 0, 1, 1);
        run("g0,0,1,3,2,9;", 0, 0, 1, 1);
        run("g0,0,1,3,3,9;", 0, 0, 1, 1);
        run("g0,0,1,3,4,9;", 0, 0, 2, 2);
        run("g3,0,1,3,6,9;", 0, 0, 1, 1);
        run("g3,0,1,3,7,9;", 0, 0, 2, 2);
        run("g0,0,1,3,4,9;", 1, 0, 1, 1);
        run("g0,0,1,3,4,9;", 2, 0, 0, 0);
    }

    static void promise17RunOfDampSand() {
        for (int kind = 1; kind <= 3; kind += 2) {
            String grains = kind == 1 ? "6" : "12";
            String text = "g" + kind + ",0,1,3," + grains + ",9;";
            run(text, 0, 0, 2, 2);
            Bank bank = Bank.laid("g" + kind + ",0,1,3,0," + grains + ";");
            bank.minutes(1);
            bank.turn(0);
            edges.due("from minute 1", bank.run(1), 3);
            edges.due("from minute 2", at(2, kind, grains), 3);
            edges.due("from minute 3", at(3, kind, grains), 2);
        }
    }

    private static int at(int minute, int kind, String grains) {
        Bank bank = Bank.laid("g" + kind + ",0,1,3,0," + grains + ";");
        bank.minutes(minute);
        bank.turn(0);
        return bank.run(2);
    }

    static void promise17RunOfSeveralTheLowest() {
        run(FIRST.repeat(8), 0, 0, 10, 10);
        run(FIRST.repeat(7) + "g0,0,1,2,18,0;", 0, 7, 9, 10);
        run(FIRST + "g0,0,1,2,18,0;g0,0,1,1,9,0;" + FIRST, 0, 1, 9, 10);
        run(NOTHING.repeat(8), 0, 0, 0, 0);
        run(FIRST + NOTHING + NOTHING, 0, 1, 0, 10);
        run("g0,0,1,2,22,0;g0,0,1,2,20,0;g0,0,1,2,21,0;", 0, 1, 10, 11);
    }

    static void promise17RunBehindHowManyAllDo() {
        run("g0,0,1,1,5,0;g0,0,1,1,7,0;g0,0,1,1,6,0;", 0, 0, 5, 7);
        run("g0,0,1,1,5,0;g0,0,1,1,6,0;g0,0,1,1,7,0;", 0, 0, 5, 7);
        run("g0,0,1,1,7,0;g0,0,1,1,6,0;g0,0,1,1,5,0;", 0, 2, 5, 7);
        run(NOTHING.repeat(7) + "g0,0,1,1,1,0;", 0, 0, 0, 1);
        run(NOTHING.repeat(7) + "g1,0,1,1,999,0;", 0, 0, 0, 1498);
    }

    static void promise17RunWithoutClerks() {
        run("g0,0,1,2,20,4;c0,1,0;", 0, 0, 10, 10);
        run("g0,0,1,2,20,4;g0,0,1,2,4,20;c1,2,0;c0,3,1;", 0, 1, 2, 10);
    }

    /** All the grains there can be, in a glass whose neck is 1: 9999 poured, the rest fallen. */
    static void promise17RunOfTheMostGrains() {
        Bank bank = Bank.laid("g1,0,1,1,0,0;" + "g0,0,1,1,999,999;".repeat(7));
        for (int k = 2; k <= 11; k++) {
            bank.pour(k / 2, k % 2, 0, 0, 999);
        }
        bank.pour(6, 0, 0, 0, 9);
        edges.due("9999 grains", bank.glass(0, 0), 9999);
        edges.due("now", bank.run(1), 0);
        edges.due("all", bank.run(2), 14998);
        bank.minutes(1);
        edges.due("a minute on", bank.run(2), 14997);
    }

    static void promise17RunChangesNothing() {
        edges.stays("run", busy(FIRST + "c0,2,1;"), b -> b.run(2));
    }

    // ---- 18 round

    static void promise18RoundOf1To3Glasses() {
        Bank bank = busy(NOTHING.repeat(3));
        edges.range("length", bank, (b, l) -> b.round(l, 2, -1), 1, 6, 3, 6);
    }

    static void promise18RoundIn1To200Minutes() {
        edges.range("of one, minutes", busy(NOTHING), (b, n) -> b.round(1, n, -1), 1, 1, 200, 200);
        edges.range("of eight, minutes", busy(NOTHING.repeat(8)), (b, n) -> b.round(1, n, -1),
                1, 8, 200, 1600);
        edges.due("three of eight", Bank.laid(NOTHING.repeat(8)).round(3, 200, -1), 1600);
    }

    static void promise18RoundAnswersHowOftenOrOneOfItsGlasses() {
        Bank bank = busy("g0,0,1,1,9,0;g0,0,1,1,0,9;");
        edges.range("of 1", bank, (b, i) -> b.round(1, 1, i), -1, 0, 0, 1);
        edges.range("of 2", bank, (b, i) -> b.round(2, 1, i), -1, 0, 1, 0);
        edges.range("of 3", bank, (b, i) -> b.round(3, 1, i), -1, 0, 2, 0);
        edges.refused("nothing as told", bank, b -> b.round(0, 0, 0), BAD);
    }

    /**
     * 1 must be turned in minute 0 and, its three grains having fallen, in minute 3; 0 in 2, or in
     * 1 and 2. A row of two turns 1 again in minute 2, so that 0 stands then.
     */
    static void promise18RoundFromTheFirstOnAgain() {
        Bank bank = Bank.laid("g0,0,1,1,2,0;g0,0,1,1,0,3;");
        edges.dueRow("one in 2", Look.row(2, i -> bank.round(1, 2, i - 1)), 0, 1);
        edges.dueRow("one in 3", Look.row(2, i -> bank.round(1, 3, i - 1)), 1, 1);
        edges.dueRow("two in 2", Look.row(3, i -> bank.round(2, 2, i - 1)), 0, 1, 0);
        edges.dueRow("two in 3", Look.row(3, i -> bank.round(2, 3, i - 1)), 1, 1, 0);
        for (int n = 3; n <= 6; n++) {
            int minutes = n;
            edges.dueRow("three in " + n, Look.row(4, i -> bank.round(3, minutes, i - 1)), 0, 1, 0, 0);
        }
    }

    static void promise18RoundOfSeveralTheFirst() {
        Bank alike = Bank.laid(NOTHING.repeat(3));
        edges.dueRow("all alike", Look.row(3, i -> alike.round(3, 9, i)), 0, 0, 0);
        Bank last = Bank.laid(FIRST.repeat(7) + "g0,0,1,2,0,20;");
        edges.dueRow("the last first", Look.row(3, i -> last.round(3, 1, i)), 7, 0, 0);
        Bank sand = Bank.laid("g0,0,1,1,99,99;".repeat(3));
        edges.dueRow("none stands", Look.row(4, i -> sand.round(3, 40, i - 1)), 0, 0, 0, 0);
    }

    static void promise18RoundCountsEachGlassInEachMinute() {
        Bank bank = Bank.laid("g0,0,1,1,9,9;" + NOTHING.repeat(3));
        edges.due("one minute", bank.round(2, 1, -1), 3);
        edges.due("two minutes", bank.round(2, 2, -1), 6);
        Bank eight = Bank.laid(NOTHING.repeat(8));
        edges.due("eight", eight.round(1, 1, -1), 8);
    }

    static void promise18RoundWithoutClerks() {
        Bank bank = Bank.laid("g0,0,1,1,9,0;g0,0,1,1,0,9;c0,1,0;c1,2,0;");
        edges.dueRow("as without", Look.row(2, i -> bank.round(1, 1, i - 1)), 0, 1);
    }

    static void promise18RoundTurnsWhatIsTied() {
        Bank bank = Bank.laid("g0,0,1,1,0,9;g0,0,1,1,0,9;g0,0,1,1,0,9;y1,0;y1,2;");
        edges.dueRow("in one", Look.row(2, i -> bank.round(1, 1, i - 1)), 0, 1);
        edges.due("tied the other way", Bank.laid("g0,0,1,1,0,9;g0,0,1,1,0,9;y1,0;").round(1, 1, 0), 1);
    }

    static void promise18RoundChangesNothing() {
        edges.stays("round", busy(FIRST + "g0,0,1,2,3,3;c0,2,1;"), b -> b.round(2, 9, 0));
    }
}
