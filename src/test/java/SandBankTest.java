import java.util.function.ToIntFunction;

/** The promises one by one, ordinary calls first; every answer was worked out by hand. */
public final class SandBankTest {
    private static final int BAD = SandBank.BAD, NO = SandBank.NO;
    private static final int FULL = SandBank.FULL, NONE = SandBank.NONE;
    private static final int LOW = Integer.MIN_VALUE, HIGH = Integer.MAX_VALUE;
    private static final String FIRST = "g0,0,1,2,20,0;";
    private static final String FILLED = "g0,0,1,1,999,999;";

    private static final Edges edges = new Edges();

    public static void main(String[] args) {
        edges.run(SandBankTest.class, 1, 26);
    }

    private static void due(String call, int got, int want) {
        edges.due(call, got, want);
    }

    private static void refused(Bank x, String call, ToIntFunction<Bank> made, int want) {
        edges.refused(call, x, made, want);
    }

    static void promise01NewObjectsClassHasItsConstants() {
        due("BAD", SandBank.BAD, -1);
        due("NO", SandBank.NO, -2);
        due("FULL", SandBank.FULL, -3);
        due("NONE", SandBank.NONE, -4);
    }

    static void promise01NewObject() {
        Bank x = new Bank();
        edges.dueRow("1 count", Look.counts(x), 1, 0, 0, 0, 0, 0, 0, 0);
        edges.dueRow("1 glass", Look.glass(x, 0), 20, 0, 0, 0, 2, 0);
        edges.dueRow("1 has", Look.has(x), 20, 0, 0, 0, 0, 0);
        edges.dueRow("1 stolen", Look.stolen(x, 0), 0, NONE, NONE, 0);
        refused(x, "1 lay of no text", Bank::lay, NO);
        refused(x, "1 undo", Bank::undo, NO);
        refused(x, "1 back", Bank::back, NO);
        due("1 a second glass", x.glass(1, 0), BAD);
        due("1 no risk", x.night(0, 99, 0), 0);
        due("1 turned alone", x.turn(0), 1);
        due("1 turned back", x.undo(), 0);
        Bank other = new Bank();
        other.minutes(5);
        other.turn(0);
        edges.dueRow("1 another object", Look.glass(x, 0), 20, 0, 0, 0, 2, 0);
    }

    static void promise02Write() {
        Bank x = new Bank();
        for (int n : new int[] {0, 9, -1, LOW, HIGH}) {
            refused(x, "2 write " + n, b -> b.write(n, 0x3b3b3b3bL), BAD);
        }
        due("2 write g0,", x.write(3, 0x1122334467302cL), 3);
        due("2 write 0,1,2,20", x.write(8, 0x302c312c322c3230L), 11);
        due("2 write ,0;", x.write(3, 0x2c303bL), 14);
        due("2 read as written", x.fault(), NONE);
        due("2 laid as written", x.lay(), 1);
        edges.dueRow("2 glass as written", Look.glass(x, 0), 20, 0, 0, 0, 2, 0);
        x.wipe();
        for (int k = 1; k <= 49; k++) {
            due("2 write 8", x.write(8, -1L), 8 * k);
        }
        due("2 write 7", x.write(7, -1L), 399);
        refused(x, "2 write above 400", b -> b.write(2, 0L), FULL);
        refused(x, "2 write far above 400", b -> b.write(8, 0L), FULL);
        due("2 write the last", x.write(1, 0L), 400);
        refused(x, "2 write behind the last", b -> b.write(1, 0L), FULL);
        refused(x, "2 BAD ahead of FULL", b -> b.write(9, 0L), BAD);
    }

    static void promise03Wipe() {
        Bank x = new Bank();
        due("3 wipe nothing", x.wipe(), 0);
        x.tell(FIRST + "bad");
        due("3 wipe", x.wipe(), 17);
        due("3 wiped", x.count(6), 0);
        due("3 fault of nothing", x.fault(), NONE);
        x.tell(FIRST.substring(0, 13));
        due("3 what was wiped ends no item", x.fault(), 0);
        due("3 wipe again", x.wipe(), 13);
        x.tell("g1,2,3,4,5,6;");
        due("3 lay what came behind", x.lay(), 1);
        x.minutes(1);
        due("3 wipe what is laid", x.wipe(), 13);
        edges.dueRow("3 the shelf stays", Look.glass(x, 0), 1, 10, 0, 1, 4, 2);
    }

    private static void fault(String text, int want) {
        Bank x = Bank.written(text);
        due("4 fault of " + text, x.fault(), want);
        if (want != NONE) {
            refused(x, "5 lay of " + text, Bank::lay, NO);
        }
    }

    static void promise04FaultOfForm() {
        fault("", NONE);
        fault(FIRST, NONE);
        fault("g000,000,001,002,020,000;", NONE);
        fault("g0,0,1,2,20,0", 0);
        fault("g0,0,1,2,20,0,", 0);
        fault("g0,0,1,2,20,0,0;", 0);
        fault("g0,0,1,2,20;", 0);
        fault("g0,0,1,2,,0;", 0);
        fault("g,0,1,2,20,0;", 0);
        fault("g0,0,1,2,20,;", 0);
        fault("g0000,0,1,2,20,0;", 0);
        fault("g0,0,1,2,0020,0;", 0);
        fault("g0,0,1,2,20,-1;", 0);
        fault("g0, 0,1,2,20,0;", 0);
        fault("g0;0,1,2,20,0;", 0);
        fault("g0.0,1,2,20,0;", 0);
        fault("G0,0,1,2,20,0;", 0);
        fault("x0;", 0);
        fault(";", 0);
        fault(" " + FIRST, 0);
        fault(FIRST + ";", 14);
        fault(FIRST + "\n", 14);
        fault(FIRST + "\0", 14);
        fault(FIRST + (char) 0xe7 + "0,1,0;", 14);
        fault(FIRST + "g", 14);
        fault(FIRST + "c0,1", 14);
        fault(FIRST + "c0,1;", 14);
        fault(FIRST + "c0,1,1,1;", 14);
        fault(FIRST + "y0;", 14);
        fault(FIRST + "p0;", 14);
        fault(FIRST + "p0,0,0;", 14);
        fault(FIRST + "r0;", 14);
        fault(FIRST + "r1,1,1;", 14);
        fault(FIRST + "z" + FIRST + "q", 14);
        fault(FIRST + "r1,1;" + "p0,6;" + "x", 19);
    }

    static void promise04FaultOfNumbers() {
        fault("g3,5,5,60,999,999;", NONE);
        fault("g0,0,0,1,0,0;", NONE);
        fault("g4,0,1,2,20,0;", 0);
        fault("g0,6,1,2,20,0;", 0);
        fault("g0,0,6,2,20,0;", 0);
        fault("g0,0,1,0,20,0;", 0);
        fault("g0,0,1,61,20,0;", 0);
        fault("g0,0,1,2,1000,0;", 0);
        fault("g0,0,1,2,20,1000;", 0);
        fault(FIRST + FIRST + "y0,1;y1,0;y0,1;", NONE);
        fault(FIRST + FIRST + "y0,0;", 28);
        fault(FIRST + FIRST + "y0,2;", 28);
        fault(FIRST + FIRST + "y2,0;", 28);
        fault(FIRST + "y0,1;" + FIRST, 14);
        fault(FIRST + "c0,1,0;c0,99,99;", NONE);
        fault(FIRST + "c1,1,0;", 14);
        fault(FIRST + "c0,0,0;", 14);
        fault(FIRST + "c0,100,0;", 14);
        fault(FIRST + "c0,1,100;", 14);
        fault("c0,1,0;" + FIRST, 0);
        fault(FIRST + "p0,0;p0,5;", NONE);
        fault(FIRST + "p0,6;", 14);
        fault(FIRST + "p1,0;", 14);
        fault("p0,0;" + FIRST, 0);
        fault("r0,0;r99,99;", NONE);
        fault("r100,0;", 0);
        fault("r0,100;", 0);
    }

    static void promise04FaultOfTooMany() {
        fault(FIRST.repeat(8), NONE);
        fault(FIRST.repeat(9), 112);
        fault(FIRST + FIRST + "y0,1;".repeat(8), NONE);
        fault(FIRST + FIRST + "y0,1;".repeat(9), 68);
        fault(FIRST + "c0,5,5;".repeat(8), NONE);
        fault(FIRST + "c0,5,5;".repeat(9), 70);
        fault(FIRST + "p0,1;".repeat(20), NONE);
        fault("r1,1;".repeat(80), NONE);
        fault("r1,1;".repeat(79) + "r1,1,", 395);
        fault("r1,1;".repeat(79) + "r1,10", 395);
        fault("r1,1;".repeat(79) + "p0,1;", 395);
    }

    static void promise05Lay() {
        Bank x = Bank.laid("g1,0,1,3,30,1;" + FIRST + "y0,1;c0,2,0;");
        edges.dueRow("5 count", Look.counts(x), 2, 1, 1, 0, 0, 0, 40, 0);
        x.minutes(4);
        x.turn(0);
        x.counted(0, 1, 2);
        x.keep();
        edges.dueRow("5 count then", Look.counts(x), 2, 1, 1, 4, 1, 1, 40, 1);
        x.write(1, 'x');
        refused(x, "5 lay with a fault", Bank::lay, NO);
        x.wipe();
        refused(x, "5 lay without a text", Bank::lay, NO);
        x.tell("r1,1;");
        due("5 no fault", x.fault(), NONE);
        refused(x, "5 lay without a glass", Bank::lay, NO);
        x.tell("g2,3,4,5,7,6;p0,1;");
        due("5 lay again", x.lay(), 1);
        edges.dueRow("5 count again", Look.counts(x), 1, 0, 0, 0, 0, 0, 23, 0);
        edges.dueRow("5 glass again", Look.glass(x, 0), 7, 6, 0, 2, 5, 1);
        due("5 the same once more", x.lay(), 1);
        refused(x, "5 nothing kept", Bank::back, NO);
        refused(x, "5 nothing undone", Bank::undo, NO);
        x.wipe();
        x.tell("g0,0,1,1,5,5;g0,0,1,1,5,5;");
        due("5 lay without partners, ties", x.lay(), 2);
        due("5 partner is A", x.glass(0, 5), 0);
        due("5 nothing tied", x.turn(0), 1);
        due("5 no risk", x.night(0, 500, 0), 0);
        x.write(8, 0x7239392c39393b79L);
        refused(x, "5 read, but not laid", Bank::lay, NO);
        due("5 no risk of what was only read", x.night(0, 500, 0), 0);
        x.wipe();
        x.tell(FIRST + "r99,99;");
        x.lay();
        due("5 a risk", x.night(0, 500, 0), 20);
        for (int k = 0; k < 2; k++) {
            x.wipe();
            x.tell(FIRST);
            x.lay();
            due("5 no risk any more", x.night(0, 500, 0), 0);
        }
    }

    static void promise06Glass() {
        Bank x = Bank.laid("g0,0,1,2,20,3;g1,2,3,60,0,999;g2,4,5,7,9,8;g3,1,1,1,1,1;p2,3;p2,1;p1,5;");
        edges.dueRow("6 plain", Look.glass(x, 0), 20, 3, 0, 0, 2, 0);
        edges.dueRow("6 damp", Look.glass(x, 1), 0, 999, 0, 1, 60, 5);
        edges.dueRow("6 two-topped", Look.glass(x, 2), 9, 8, 0, 2, 7, 1);
        edges.dueRow("6 wide", Look.glass(x, 3), 1, 1, 0, 3, 1, 1);
        x.turn(2);
        x.minutes(1);
        edges.dueRow("6 turned", Look.glass(x, 2), 16, 1, 1, 2, 7, 1);
        for (int i : new int[] {-1, 4, 8, LOW, HIGH}) {
            refused(x, "6 glass " + i, b -> b.glass(i, 0), BAD);
        }
        for (int what : new int[] {-1, 6, LOW, HIGH}) {
            refused(x, "6 what " + what, b -> b.glass(0, what), BAD);
        }
    }

    static void promise07Has() {
        Bank x = Bank.laid("g0,0,1,2,20,3;g1,1,0,2,5,7;g3,4,4,1,10,11;");
        edges.dueRow("7 has", Look.has(x), 27, 8, 0, 0, 21, 0);
        Bank two = Bank.laid("g2,0,1,5,21,3;p0,4;");
        edges.dueRow("7 half, cut", Look.has(two), 11, 3, 0, 0, 10, 0);
        two.turn(0);
        edges.dueRow("7 half, turned", Look.has(two), 11, 3, 0, 0, 10, 0);
        two.turn(0);
        two.minutes(1);
        edges.dueRow("7 half, later", Look.has(two), 8, 8, 0, 0, 8, 0);
        edges.dueRow("7 no partner", Look.has(Bank.laid("g2,2,1,5,21,3;")), 0, 3, 21, 0, 0, 0);
        edges.dueRow("7 B is partner", Look.has(Bank.laid("g2,2,1,5,21,3;p0,1;")),
                0, 13, 11, 0, 0, 0);
        edges.dueRow("7 partner of a plain one", Look.has(Bank.laid("g0,2,1,5,21,3;p0,5;")),
                0, 3, 21, 0, 0, 0);
        for (int h : new int[] {-1, 6, LOW, HIGH}) {
            refused(x, "7 hand " + h, b -> b.has(h), BAD);
        }
    }

    static void promise08Minutes() {
        Bank x = new Bank();
        for (int n : new int[] {0, -1, 1000, LOW, HIGH}) {
            refused(x, "8 minutes " + n, b -> b.minutes(n), BAD);
        }
        due("8 one", x.minutes(1), 1);
        edges.dueRow("8 one has", Look.has(x), 18, 2, 0, 0, 0, 0);
        due("8 nine", x.minutes(9), 10);
        edges.dueRow("8 ten has", Look.has(x), 0, 20, 0, 0, 0, 0);
        due("8 no more than there are", x.minutes(999), 1009);
        edges.dueRow("8 all fell", Look.has(x), 0, 20, 0, 0, 0, 0);
        Bank few = Bank.laid("g0,0,1,3,4,0;");
        few.minutes(2);
        edges.dueRow("8 the last falls alone", Look.has(few), 0, 4, 0, 0, 0, 0);
    }

    static void promise08MinutesOfKinds() {
        Bank x = Bank.laid("g0,0,5,4,100,0;g1,1,5,4,100,0;g2,2,5,4,100,0;g3,3,5,4,100,0;");
        int[][] want = {{96, 96, 96, 92}, {92, 92, 92, 84}, {88, 92, 88, 84}, {84, 88, 84, 76},
            {80, 84, 80, 68}, {76, 84, 76, 68}, {72, 80, 72, 60}};
        for (int m = 0; m < want.length; m++) {
            due("8 minute by minute", x.minutes(1), m + 1);
            for (int h = 0; h < 4; h++) {
                due("8 kind " + h + " behind minute " + m, x.has(h), want[m][h]);
            }
        }
        Bank once = Bank.laid("g0,0,5,4,100,0;g1,1,5,4,100,0;g2,2,5,4,100,0;g3,3,5,4,100,0;");
        due("8 all at once", once.minutes(7), 7);
        edges.dueRow("8 the same", Look.has(once), 72, 80, 72, 60, 0, 116);
        Bank deep = Bank.laid("g3,0,1,60,119,0;");
        deep.minutes(1);
        edges.dueRow("8 wide, no more than there are", Look.has(deep), 0, 119, 0, 0, 0, 0);
    }

    static void promise08MinutesOfClerks() {
        Bank x = Bank.laid(FIRST + "c0,3,1;");
        int[] want = {18, 20, 20, 20, 18, 16, 14, 16, 18, 20, 18};
        int[] up = {0, 1, 1, 1, 0, 0, 0, 1, 1, 1, 0};
        for (int m = 0; m < want.length; m++) {
            x.minutes(1);
            due("8 clerk, behind minute " + m, x.has(0), want[m]);
            due("8 clerk, up behind minute " + m, x.glass(0, 2), up[m]);
        }
        Bank both = Bank.laid(FIRST + "c0,2,0;c0,4,0;");
        both.minutes(1);
        due("8 two clerks in one minute", both.glass(0, 2), 0);
        both.minutes(2);
        due("8 one of two clerks", both.glass(0, 2), 1);
        Bank tied = Bank.laid(FIRST + FIRST + "y0,1;c0,1,0;c1,1,1;");
        tied.minutes(1);
        due("8 clerk turns what is tied", tied.glass(1, 2), 1);
        tied.minutes(1);
        due("8 the first is turned again", tied.glass(0, 2), 0);
        due("8 the tied one is turned twice", tied.glass(1, 2), 1);
        Bank last = Bank.laid(FIRST + "c0,99,99;");
        last.minutes(99);
        due("8 ahead of the clerk's first", last.glass(0, 2), 0);
        last.minutes(1);
        due("8 the clerk's first", last.glass(0, 2), 1);
        last.minutes(98);
        due("8 ahead of his second", last.glass(0, 2), 1);
        last.minutes(1);
        due("8 his second", last.glass(0, 2), 0);
    }

    static void promise09Turn() {
        Bank x = Bank.laid(FIRST.repeat(4) + "y0,1;y0,2;y1,3;y2,3;");
        due("9 turn all, each once", x.turn(0), 4);
        for (int i = 0; i < 4; i++) {
            due("9 up of " + i, x.glass(i, 2), 1);
        }
        due("9 turn with one", x.turn(1), 2);
        due("9 not the one it is tied to", x.glass(0, 2), 1);
        due("9 the other one", x.glass(3, 2), 0);
        due("9 turn alone", x.turn(3), 1);
        due("9 turned back", x.glass(3, 2), 1);
        edges.dueRow("9 no grain moves", Look.has(x), 80, 0, 0, 0, 0, 0);
        for (int i : new int[] {-1, 4, LOW, HIGH}) {
            refused(x, "9 turn " + i, b -> b.turn(i), BAD);
        }
        Bank ring = Bank.laid(FIRST.repeat(3) + "y0,1;y1,2;y2,0;");
        due("9 a ring", ring.turn(1), 3);
        due("9 a ring's first, once", ring.glass(1, 2), 1);
        Bank chain = Bank.laid(FIRST.repeat(8) + "y7,6;y6,5;y5,4;y4,3;y3,2;y2,1;y1,0;");
        due("9 a long chain", chain.turn(7), 8);
        due("9 a long chain's end", chain.turn(0), 1);
        Bank again = Bank.laid(FIRST.repeat(2) + "y0,1;y0,1;");
        due("9 tied twice", again.turn(0), 2);
        due("9 tied twice, once turned", again.glass(1, 2), 1);
    }

    static void promise10Pour() {
        Bank x = Bank.laid("g0,0,1,2,20,6;g1,2,3,4,100,0;");
        due("10 within a glass", x.pour(0, 0, 0, 1, 5), 11);
        due("10 and back", x.pour(0, 1, 0, 0, 11), 26);
        due("10 into another one", x.pour(1, 0, 0, 1, 100), 100);
        edges.dueRow("10 then", Look.has(x), 26, 100, 0, 0, 0, 0);
        refused(x, "10 of none", b -> b.pour(1, 0, 0, 0, 1), NO);
        refused(x, "10 not so many", b -> b.pour(0, 0, 1, 0, 27), NO);
        refused(x, "10 into itself", b -> b.pour(0, 0, 0, 0, 1), BAD);
        refused(x, "10 into itself, not so many", b -> b.pour(0, 1, 0, 1, 9999), BAD);
        for (int wrong : new int[] {-1, 2, LOW, HIGH}) {
            refused(x, "10 glass " + wrong, b -> b.pour(wrong, 0, 0, 1, 1), BAD);
            refused(x, "10 bulb " + wrong, b -> b.pour(0, wrong, 0, 1, 1), BAD);
            refused(x, "10 into glass " + wrong, b -> b.pour(0, 0, wrong, 1, 1), BAD);
            refused(x, "10 into bulb " + wrong, b -> b.pour(0, 0, 0, wrong, 1), BAD);
        }
        for (int n : new int[] {0, -1, 10000, LOW, HIGH}) {
            refused(x, "10 grains " + n, b -> b.pour(0, 0, 0, 1, n), BAD);
        }
        due("10 three can be undone", x.count(4), 3);
    }

    static void promise10PourAtTheEdge() {
        Bank x = Bank.laid(FILLED.repeat(8));
        int there = 999;
        for (int i = 1; i <= 7; i++) {
            there += 999;
            due("10 heaped", x.pour(i, 0, 0, 0, 999), there);
        }
        due("10 heaped more", x.pour(1, 1, 0, 0, 999), 8991);
        due("10 heaped yet more", x.pour(2, 1, 0, 0, 999), 9990);
        refused(x, "10 above 9999", b -> b.pour(3, 1, 0, 0, 10), NO);
        due("10 up to 9999", x.pour(3, 1, 0, 0, 9), 9999);
        refused(x, "10 one more", b -> b.pour(3, 1, 0, 0, 1), NO);
        due("10 all of them", x.pour(0, 0, 7, 0, 9999), 9999);
        due("10 none left", x.glass(0, 0), 0);
    }

    static void promise11Undo() {
        Bank x = Bank.laid("g0,0,1,2,20,6;g1,2,3,4,100,0;y1,0;");
        x.pour(0, 0, 1, 1, 15);
        x.turn(1);
        x.pour(1, 1, 0, 1, 7);
        due("11 known", x.count(4), 3);
        due("11 the pouring", x.undo(), 2);
        edges.dueRow("11 as ahead of it", Look.has(x), 5, 6, 100, 15, 0, 0);
        due("11 still turned", x.glass(0, 2), 1);
        due("11 the turn", x.undo(), 1);
        due("11 turned back", x.glass(1, 2), 0);
        due("11 turned back, too", x.glass(0, 2), 0);
        due("11 the first", x.undo(), 0);
        edges.dueRow("11 as at first", Look.has(x), 20, 6, 100, 0, 0, 0);
        refused(x, "11 no more", Bank::undo, NO);
        for (int k = 1; k <= 10; k++) {
            x.pour(1, 0, 1, 1, k);
        }
        due("11 eight at most", x.count(4), 8);
        for (int k = 7; k >= 0; k--) {
            due("11 one of eight", x.undo(), k);
        }
        due("11 the oldest are forgotten", x.glass(1, 1), 3);
        refused(x, "11 none of the forgotten", Bank::undo, NO);
    }

    static void promise11UndoOfMany() {
        Bank x = Bank.laid(FIRST + "g0,2,3,1,50,50;g0,4,5,1,50,50;");
        String[] states = new String[23];
        for (int k = 0; k < 23; k++) {
            states[k] = Look.glasses(x);
            int done = k % 3 == 0 ? x.turn(k % 2) : x.pour(1 + k % 2, k / 2 % 2, 2 - k % 2, k % 2, k);
            due("11 done", done > 0 ? 1 : 0, 1);
        }
        for (int k = 22; k >= 15; k--) {
            due("11 one of many", x.undo(), k - 15);
            edges.same("11 as ahead of " + k, Look.glasses(x), states[k]);
        }
        refused(x, "11 no more of many", Bank::undo, NO);
        for (int k = 0; k < 8; k++) {
            x.turn(0);
        }
        for (int k = 0; k < 8; k++) {
            x.undo();
        }
        x.pour(0, 0, 0, 1, 1);
        due("11 a pouring where a turn was", x.undo(), 0);
        due("11 poured back", x.glass(0, 0), 20);
        due("11 not turned", x.glass(0, 2), 1);
    }

    static void promise11UndoForgets() {
        Bank x = new Bank();
        x.turn(0);
        refused(x, "11 minutes refused", b -> b.minutes(0), BAD);
        due("11 stays known", x.count(4), 1);
        x.minutes(1);
        due("11 none behind a minute", x.count(4), 0);
        refused(x, "11 nothing behind a minute", Bank::undo, NO);
        x.turn(0);
        x.keep();
        due("11 known behind keep", x.count(4), 1);
        due("11 undone behind keep", x.undo(), 0);
        x.turn(0);
        x.back();
        refused(x, "11 nothing behind back", Bank::undo, NO);
        due("11 as kept", x.glass(0, 2), 0);
    }

    static void promise12Later() {
        Bank x = Bank.laid(FIRST + "c0,3,1;");
        int[] want = {20, 18, 20, 20, 20, 18, 16, 14, 16, 18, 20, 18};
        for (int t = 0; t < want.length; t++) {
            edges.dueRow("12 later " + t, Look.later(x, t), want[t], 20 - want[t], 0, 0, 0, 0);
        }
        x.minutes(5);
        due("12 from now on", x.later(2, 0), 14);
        due("12 the shelf stays", x.has(0), 18);
        due("12 the minute stays", x.count(3), 5);
        x.turn(0);
        due("12 of a turned one", x.later(1, 0), 20);
        due("12 undo stays", x.undo(), 0);
        Bank half = Bank.laid("g2,0,1,5,21,3;p0,4;");
        edges.dueRow("12 half", Look.later(half, 1), 8, 8, 0, 0, 8, 0);
        due("12 the longest", half.later(20000, 1), 24);
        for (int t : new int[] {-1, 20001, LOW, HIGH}) {
            refused(x, "12 minutes " + t, b -> b.later(t, 0), BAD);
        }
        for (int h : new int[] {-1, 6, LOW, HIGH}) {
            refused(x, "12 hand " + h, b -> b.later(1, h), BAD);
        }
    }

    static void promise13Falls() {
        Bank x = Bank.laid(FIRST + "g1,2,3,4,10,5;c0,3,1;");
        due("13 none", x.falls(0, 0, 0), 0);
        due("13 out of A's", x.falls(7, 0, 0), 8);
        due("13 out of B's", x.falls(7, 0, 1), 2);
        due("13 out of B's later", x.falls(10, 0, 1), 8);
        due("13 damp", x.falls(3, 1, 0), 8);
        due("13 damp, all", x.falls(20000, 1, 0), 10);
        due("13 not out of the lower", x.falls(20000, 1, 1), 0);
        due("13 the shelf stays", x.has(0), 20);
        x.turn(1);
        due("13 turned", x.falls(1, 1, 1), 4);
        x.minutes(2);
        due("13 sticks now", x.falls(1, 1, 1), 0);
        for (int t : new int[] {-1, 20001, LOW, HIGH}) {
            refused(x, "13 minutes " + t, b -> b.falls(t, 0, 0), BAD);
        }
        for (int wrong : new int[] {-1, 2, LOW, HIGH}) {
            refused(x, "13 glass " + wrong, b -> b.falls(1, wrong, 0), BAD);
            refused(x, "13 bulb " + wrong, b -> b.falls(1, 0, wrong), BAD);
        }
    }

    static void promise14Empty() {
        Bank x = Bank.laid(FIRST + "c0,3,1;");
        int[] want = {0, 0, 0, 1, 2, 2, 2, 2, 2, 2, 2};
        for (int t = 0; t < want.length; t++) {
            due("14 empty " + t, x.empty(t), want[t]);
        }
        due("14 the shelf stays", x.has(0), 20);
        Bank two = Bank.laid("g0,0,1,1,0,0;g0,0,1,1,0,0;");
        due("14 a minute counts once", two.empty(9), 9);
        due("14 the longest", two.empty(20000), 20000);
        Bank runs = Bank.laid("g0,0,1,1,3,0;g0,0,1,1,5,0;");
        due("14 not yet", runs.empty(3), 0);
        due("14 from the third on", runs.empty(10), 7);
        Bank turned = Bank.laid("g0,0,1,1,0,5;c0,99,0;");
        due("14 looked at behind the clerks", turned.empty(5), 0);
        due("14 and run out", turned.empty(6), 1);
        for (int t : new int[] {-1, 20001, LOW, HIGH}) {
            refused(x, "14 minutes " + t, b -> b.empty(t), BAD);
        }
    }

    static void promise15Late() {
        Bank x = Bank.laid(FIRST + "c0,3,1;");
        due("15 at once", x.late(0, 2, 0, 0), 100000);
        due("15 not late", x.late(0, 0, 9, 0), 100000);
        due("15 less", x.late(0, 2, 2, 0), 99996);
        due("15 more", x.late(0, 2, 2, 1), 100004);
        due("15 untouched", x.late(0, 2, 2, 5), 100000);
        due("15 he goes on behind his first", x.late(0, 2, 4, 0), 100000 + 16 - 20);
        x.minutes(5);
        due("15 begun again later", x.late(0, 99, 3, 0), 99996);
        due("15 the shelf stays", x.has(0), 18);
        Bank two = Bank.laid(FIRST + "g0,2,3,5,50,0;c0,2,0;c1,2,1;");
        due("15 the other clerk is in time", two.late(0, 99, 2, 2), 100000);
        due("15 the second clerk", two.late(1, 1, 2, 2), 99990);
        due("15 the second clerk's gain", two.late(1, 1, 2, 3), 100010);
        due("15 the longest", two.late(1, 99, 20000, 0), 100000);
        for (int k : new int[] {-1, 2, LOW, HIGH}) {
            refused(two, "15 clerk " + k, b -> b.late(k, 0, 0, 0), BAD);
        }
        for (int m : new int[] {-1, 100, LOW, HIGH}) {
            refused(two, "15 late " + m, b -> b.late(0, m, 0, 0), BAD);
        }
        for (int t : new int[] {-1, 20001, LOW, HIGH}) {
            refused(two, "15 minutes " + t, b -> b.late(0, 0, t, 0), BAD);
        }
        for (int h : new int[] {-1, 6, LOW, HIGH}) {
            refused(two, "15 hand " + h, b -> b.late(0, 0, 0, h), BAD);
        }
        due("15 no clerk", new Bank().late(0, 0, 0, 0), BAD);
    }

    static void promise16Gains() {
        Bank x = Bank.laid(FIRST + "c0,3,1;");
        due("16 who", x.gains(0, 2, 2, 0), 1);
        due("16 how much", x.gains(0, 2, 2, 1), 100004);
        due("16 nobody: the lowest", x.gains(0, 0, 9, 0), 0);
        due("16 nothing", x.gains(0, 0, 9, 1), 100000);
        Bank equal = Bank.laid("g0,5,4,2,20,0;g0,5,3,2,20,0;y0,1;c0,9,1;");
        due("16 of several the lowest", equal.gains(0, 9, 2, 0), 3);
        due("16 of several, how much", equal.gains(0, 9, 2, 1), 100004);
        Bank last = Bank.laid("g0,0,5,2,20,0;c0,9,1;");
        due("16 the last hand", last.gains(0, 9, 2, 0), 5);
        due("16 the shelf stays", last.has(0), 20);
        for (int k : new int[] {-1, 1, LOW, HIGH}) {
            refused(x, "16 clerk " + k, b -> b.gains(k, 0, 0, 0), BAD);
        }
        for (int m : new int[] {-1, 100, LOW, HIGH}) {
            refused(x, "16 late " + m, b -> b.gains(0, m, 0, 0), BAD);
        }
        for (int t : new int[] {-1, 20001, LOW, HIGH}) {
            refused(x, "16 minutes " + t, b -> b.gains(0, 0, t, 0), BAD);
        }
        for (int what : new int[] {-1, 2, LOW, HIGH}) {
            refused(x, "16 what " + what, b -> b.gains(0, 0, 0, what), BAD);
        }
    }

    private static void run(Bank x, String when, int first, int soonest, int longest) {
        due("17 " + when + ", the glass", x.run(0), first);
        due("17 " + when + ", behind", x.run(1), soonest);
        due("17 " + when + ", all behind", x.run(2), longest);
    }

    static void promise17Run() {
        Bank x = Bank.laid("g0,0,1,3,10,0;g1,0,1,2,8,0;g3,0,1,2,8,0;c2,1,0;");
        run(x, "no clerk turns", 2, 2, 5);
        Bank still = Bank.laid("g0,0,1,3,10,0;g1,0,1,2,8,0;g3,0,1,2,8,0;");
        still.minutes(2);
        run(still, "from now on", 2, 0, 3);
        still.turn(1);
        run(still, "turned", 2, 0, 3);
        run(Bank.laid("g0,0,1,1,5,9;g0,0,1,1,5,0;g0,0,1,2,10,0;"), "of several", 0, 5, 5);
        run(Bank.laid("g2,0,1,1,999,0;g1,0,1,1,999,0;"), "long", 0, 999, 1498);
        Bank heap = Bank.laid("g1,0,1,1,999,999;" + FILLED.repeat(7));
        for (int i = 1; i < 8; i++) {
            heap.pour(i, 0, 0, 0, 999);
        }
        run(heap, "heaped", 1, 0, 11987);
        refused(x, "17 what", b -> b.run(3), BAD);
        refused(x, "17 below", b -> b.run(-1), BAD);
        refused(x, "17 far below", b -> b.run(LOW), BAD);
        refused(x, "17 far above", b -> b.run(HIGH), BAD);
    }

    static void promise18Round() {
        Bank x = Bank.laid("g0,0,1,1,3,0;g0,0,1,1,0,3;c0,1,0;");
        due("18 the fewest", x.round(1, 1, -1), 0);
        due("18 the glass", x.round(1, 1, 0), 1);
        due("18 a second one that is not reached", x.round(2, 1, 1), 0);
        due("18 the first of two", x.round(2, 1, 0), 1);
        due("18 the shelf stays", x.glass(1, 2), 0);
        Bank two = Bank.laid("g0,0,1,1,3,0;g0,0,1,1,3,0;");
        due("18 counted in all minutes", two.round(1, 4, -1), 2);
        due("18 of several the first", two.round(1, 4, 0), 0);
        Bank none = Bank.laid("g0,0,1,1,0,0;g0,0,1,1,0,0;g1,0,1,1,0,0;");
        due("18 each glass counts", none.round(3, 200, -1), 600);
        due("18 all alike", none.round(3, 200, 2), 0);
        for (int l : new int[] {0, -1, 4, LOW, HIGH}) {
            refused(x, "18 length " + l, b -> b.round(l, 1, -1), BAD);
        }
        for (int n : new int[] {0, -1, 201, LOW, HIGH}) {
            refused(x, "18 minutes " + n, b -> b.round(1, n, -1), BAD);
        }
        for (int i : new int[] {-2, 2, 3, LOW, HIGH}) {
            refused(x, "18 place " + i, b -> b.round(2, 1, i), BAD);
        }
        due("18 no second of one", x.round(1, 1, 1), BAD);
    }

    /** Both are turned first; the damp one's sand sticks, so that 1 alone is turned next. */
    static void promise18RoundOfTies() {
        Bank x = Bank.laid("g1,0,1,1,0,9;g0,0,1,9,0,9;y0,1;");
        x.minutes(2);
        due("18 tied, how often", x.round(2, 2, -1), 0);
        due("18 tied, the first", x.round(2, 2, 0), 0);
        due("18 tied, the second", x.round(2, 2, 1), 1);
        Bank back = Bank.laid("g0,0,1,9,0,9;g0,0,1,1,0,9;y1,0;");
        due("18 tied back, how often", back.round(2, 2, -1), 0);
        due("18 tied back, the first", back.round(2, 2, 0), 1);
        due("18 tied back, the second", back.round(2, 2, 1), 0);
        due("18 tied back, from the first on again", back.round(2, 3, -1), 0);
        Bank damp = Bank.laid("g1,0,1,1,1,1;");
        damp.minutes(2);
        due("18 from this minute on, in which damp sand sticks", damp.round(1, 1, -1), 0);
        due("18 and then", damp.round(1, 2, -1), 1);
    }

    static void promise19Counted() {
        Bank x = Bank.laid(FIRST + FIRST);
        for (int i : new int[] {-1, 2, LOW, HIGH}) {
            refused(x, "19 glass " + i, b -> b.counted(i, 0, 0), BAD);
        }
        for (int m : new int[] {-1, 20001, LOW, HIGH}) {
            refused(x, "19 minute " + m, b -> b.counted(0, m, 0), BAD);
        }
        for (int n : new int[] {-1, 10000, LOW, HIGH}) {
            refused(x, "19 grains " + n, b -> b.counted(0, 0, n), BAD);
        }
        due("19 the least", x.counted(0, 0, 0), 1);
        due("19 the most", x.counted(1, 20000, 9999), 2);
        for (int k = 3; k <= 12; k++) {
            due("19 more", x.counted(1, 5, 20), k);
        }
        refused(x, "19 a thirteenth", b -> b.counted(0, 1, 1), FULL);
        refused(x, "19 BAD ahead of FULL", b -> b.counted(2, 1, 1), BAD);
        due("19 minutes leave it", x.minutes(3), 3);
        due("19 still twelve", x.count(5), 12);
    }

    static void promise20Stolen() {
        Bank x = Bank.laid("g0,0,1,2,20,5;g0,2,3,2,7,0;");
        edges.dueRow("20 none", Look.stolen(x, 0), 0, NONE, NONE, 0);
        x.counted(1, 1, 0);
        edges.dueRow("20 of another glass", Look.stolen(x, 0), 0, NONE, NONE, 0);
        edges.dueRow("20 of it", Look.stolen(x, 1), 7, 1, NONE, 0);
        x.counted(0, 50, 25);
        x.counted(0, 60, 30);
        edges.dueRow("20 no fewer", Look.stolen(x, 0), 0, NONE, NONE, 1);
        x.counted(0, 40, 24);
        edges.dueRow("20 one fewer", Look.stolen(x, 0), 1, 40, NONE, 2);
        x.counted(0, 30, 25);
        x.counted(0, 35, 26);
        x.counted(0, 20, 25);
        edges.dueRow("20 since the last ahead", Look.stolen(x, 0), 1, 40, 35, 3);
        x.counted(0, 40, 25);
        edges.dueRow("20 not in the same minute", Look.stolen(x, 0), 1, 40, 35, 3);
        x.counted(0, 45, 10);
        edges.dueRow("20 the fewest", Look.stolen(x, 0), 15, 40, 35, 3);
        x.pour(0, 0, 1, 0, 20);
        x.minutes(100);
        edges.dueRow("20 less than told", Look.stolen(x, 0), 15, 40, 35, 3);
        x.counted(0, 0, 24);
        edges.dueRow("20 in minute 0", Look.stolen(x, 0), 15, 0, NONE, 6);
        for (int i : new int[] {-1, 2, LOW, HIGH}) {
            refused(x, "20 glass " + i, b -> b.stolen(i, 0), BAD);
        }
        for (int what : new int[] {-1, 4, LOW, HIGH}) {
            refused(x, "20 what " + what, b -> b.stolen(0, what), BAD);
        }
        Bank same = new Bank();
        same.counted(0, 7, 3);
        same.counted(0, 7, 4);
        same.counted(0, 8, 3);
        edges.dueRow("20 no later, no more", Look.stolen(same, 0), 17, 7, NONE, 0);
        same.counted(0, 0, 20);
        edges.dueRow("20 since minute 0", Look.stolen(same, 0), 17, 7, 0, 0);
        Bank first = new Bank();
        first.counted(0, 1, 20);
        first.counted(0, 2, 19);
        edges.dueRow("20 the first told", Look.stolen(first, 0), 1, 2, 1, 0);
        Bank late = new Bank();
        late.counted(0, 2, 19);
        late.counted(0, 1, 18);
        edges.dueRow("20 the first told is false", Look.stolen(late, 0), 2, 1, NONE, 1);
    }

    static void promise21Split() {
        Bank x = Bank.laid("g0,0,1,1,5,3;g0,2,3,1,2,0;");
        edges.dueRow("21 seven", Look.split(x, 7), 4, 2, 1, 0, 0, 0);
        edges.dueRow("21 nine", Look.split(x, 9), 4, 3, 2, 0, 0, 0);
        edges.dueRow("21 ten", Look.split(x, 10), 5, 3, 2, 0, 0, 0);
        edges.dueRow("21 one", Look.split(x, 1), 1, 0, 0, 0, 0, 0);
        edges.dueRow("21 nothing", Look.split(x, 0), 0, 0, 0, 0, 0, 0);
        edges.dueRow("21 the most", Look.split(x, 9999), 4999, 3000, 2000, 0, 0, 0);
        Bank alike = Bank.laid("g0,1,3,1,1,1;g0,5,5,1,1,0;");
        edges.dueRow("21 alike, one left", Look.split(alike, 10), 0, 4, 0, 3, 0, 3);
        edges.dueRow("21 alike, two left", Look.split(alike, 11), 0, 4, 0, 4, 0, 3);
        Bank none = Bank.laid("g0,0,1,1,0,0;");
        refused(none, "21 all have none", b -> b.split(5, 0), NONE);
        refused(none, "21 nothing of none", b -> b.split(0, 0), NONE);
        refused(none, "21 BAD ahead of NONE", b -> b.split(5, 6), BAD);
        for (int r : new int[] {-1, 10000, LOW, HIGH}) {
            refused(x, "21 grains " + r, b -> b.split(r, 0), BAD);
        }
        for (int h : new int[] {-1, 6, LOW, HIGH}) {
            refused(x, "21 hand " + h, b -> b.split(1, h), BAD);
        }
        x.minutes(2);
        edges.dueRow("21 as they have now", Look.split(x, 10), 3, 5, 0, 2, 0, 0);
    }

    /** DRAW(0, 0) is 1 and DRAW(0, 1) is 110 by 0; DRAW(0, 0) is 803 by 1. */
    static void promise22Night() {
        Bank x = Bank.laid(FIRST + "r2,0;");
        due("22 no minute", x.night(0, 0, 0), 0);
        due("22 broken: lost", x.night(0, 1, 0), 20);
        due("22 broken", x.night(0, 1, 1), 1);
        due("22 by another number", x.night(1, 1, 1), 0);
        due("22 the shelf stays", x.has(0), 20);
        x.minutes(1);
        due("22 drawn from its own first minute", x.night(0, 1, 1), 1);
        due("22 the other bulb, too", x.night(0, 1, 0), 20);
        due("22 1 is not below 1", Bank.laid(FIRST + "r1,0;").night(0, 1, 0), 0);
        due("22 a mouse from R on", Bank.laid(FIRST + "r1,1;").night(0, 1, 0), 3);
        due("22 a mouse breaks none", Bank.laid(FIRST + "r1,1;").night(0, 1, 1), 0);
        due("22 1 is not below 0 and 1", Bank.laid(FIRST + "r0,1;").night(0, 1, 0), 0);
        due("22 1 is below 0 and 2", Bank.laid(FIRST + "r0,2;").night(0, 1, 0), 3);
        due("22 110 is below 99 and 99", Bank.laid(FIRST + "r1,0;r99,99;r12,99;").night(0, 2, 0), 20);
        due("22 110 is a mouse's", Bank.laid(FIRST + "r0,99;").night(0, 2, 0), 3);
        due("22 no more than there are", Bank.laid("g0,0,1,2,2,5;r0,2;").night(0, 1, 0), 2);
        due("22 of the upper bulb", Bank.laid("g0,0,1,2,0,5;r0,2;").night(0, 1, 0), 0);
        due("22 behind the clerks", Bank.laid("g0,0,1,2,0,5;c0,1,0;r0,2;").night(0, 1, 0), 3);
        due("22 without risk", new Bank().night(9999, 2000, 0), 0);
        for (int z : new int[] {-1, 10000, LOW, HIGH}) {
            refused(x, "22 number " + z, b -> b.night(z, 1, 0), BAD);
        }
        for (int t : new int[] {-1, 2001, LOW, HIGH}) {
            refused(x, "22 minutes " + t, b -> b.night(0, t, 0), BAD);
        }
        for (int what : new int[] {-1, 2, LOW, HIGH}) {
            refused(x, "22 what " + what, b -> b.night(0, 1, what), BAD);
        }
    }

    /** By 0 DRAW(1, 0) is 487; those of eight glasses are worked out here. */
    static void promise22NightOfSeveral() {
        Bank x = Bank.laid(FIRST + "g0,2,3,5,50,1;r2,0;");
        due("22 one of two", x.night(0, 1, 1), 1);
        due("22 one of two: lost", x.night(0, 1, 0), 20);
        edges.dueRow("23 the other goes on", Look.nightHas(x, 0, 1), 0, 0, 45, 6, 0, 0);
        Bank eight = Bank.laid(FILLED.repeat(8) + "r40,0;");
        for (int z : new int[] {0, 1, 2, 77, 5000, 9998, 9999}) {
            for (int t : new int[] {0, 1, 2, 3, 7, 20, 40, 2000}) {
                int broken = brokenOfEight(z, t, 40);
                due("22 broken by " + z + " in " + t, eight.night(z, t, 1), broken);
                due("22 lost by " + z + " in " + t, eight.night(z, t, 0), 1998 * broken);
            }
        }
    }

    private static int brokenOfEight(int z, int t, int below) {
        int gone = 0;
        for (int i = 0; i < 8; i++) {
            boolean whole = true;
            for (int k = 0; k < t && whole; k++) {
                long rest = (7919L * z + 6151L * i + 3571L * k + 1) % 65521;
                whole = rest * rest % 65521 % 1000 >= below;
            }
            gone += whole ? 0 : 1;
        }
        return gone;
    }

    static void promise23NightHas() {
        Bank x = Bank.laid(FIRST + "r1,1;");
        edges.dueRow("23 no minute", Look.nightHas(x, 0, 0), 20, 0, 0, 0, 0, 0);
        edges.dueRow("23 a mouse, then it falls", Look.nightHas(x, 0, 1), 15, 2, 0, 0, 0, 0);
        edges.dueRow("23 nothing more in the second", Look.nightHas(x, 0, 2), 13, 4, 0, 0, 0, 0);
        edges.dueRow("23 undisturbed", Look.nightHas(x, 1, 1), 18, 2, 0, 0, 0, 0);
        edges.dueRow("23 the shelf stays", Look.has(x), 20, 0, 0, 0, 0, 0);
        edges.dueRow("23 broken", Look.nightHas(Bank.laid(FIRST + "r2,0;"), 0, 1),
                0, 0, 0, 0, 0, 0);
        edges.dueRow("23 of the bulb that a clerk turned up",
                Look.nightHas(Bank.laid("g0,0,1,2,20,9;c0,1,0;r0,2;"), 0, 1),
                22, 4, 0, 0, 0, 0);
        edges.dueRow("23 half", Look.nightHas(Bank.laid("g2,0,1,2,20,9;p0,5;r0,2;"), 0, 1),
                8, 11, 0, 0, 0, 7);
        Bank damp = Bank.laid("g1,0,1,2,20,9;r0,2;");
        damp.minutes(2);
        edges.dueRow("23 in a minute in which damp sand sticks", Look.nightHas(damp, 0, 1),
                13, 13, 0, 0, 0, 0);
        for (int z : new int[] {-1, 10000, LOW, HIGH}) {
            refused(x, "23 number " + z, b -> b.nightHas(z, 1, 0), BAD);
        }
        for (int t : new int[] {-1, 2001, LOW, HIGH}) {
            refused(x, "23 minutes " + t, b -> b.nightHas(0, t, 0), BAD);
        }
        for (int h : new int[] {-1, 6, LOW, HIGH}) {
            refused(x, "23 hand " + h, b -> b.nightHas(0, 1, h), BAD);
        }
    }

    static void promise24Keep() {
        Bank x = Bank.laid(FIRST);
        due("24 keep", x.keep(), 1);
        x.turn(0);
        due("24 keep a second", x.keep(), 2);
        refused(x, "24 keep a third", Bank::keep, FULL);
        due("24 the second", x.back(), 1);
        due("24 turned", x.glass(0, 2), 1);
        due("24 keep anew", x.keep(), 2);
    }

    static void promise25Back() {
        Bank x = Bank.laid("g0,0,1,2,20,0;g1,2,3,1,9,9;");
        x.minutes(3);
        x.turn(1);
        x.counted(0, 1, 19);
        String first = Look.shelf(x).replaceFirst(", 1, 1, 27, 0]", ", 0, 1, 27, 0]");
        due("24 keep", x.keep(), 1);
        x.minutes(2);
        x.pour(0, 1, 1, 0, 3);
        x.counted(1, 2, 3);
        String second = Look.shelf(x).replaceFirst(", 1, 2, 27, 1]", ", 0, 2, 27, 1]");
        due("24 keep a second", x.keep(), 2);
        refused(x, "24 keep a third", Bank::keep, FULL);
        x.turn(0);
        x.minutes(50);
        x.counted(0, 9, 1);
        due("25 back", x.back(), 1);
        edges.same("25 as kept second", Look.shelf(x), second);
        due("25 back to the first", x.back(), 0);
        edges.same("25 as kept first", Look.shelf(x), first);
        refused(x, "25 nothing is left", Bank::back, NO);
        due("24 keep anew", x.keep(), 1);
        x.wipe();
        x.turn(0);
        due("25 back anew", x.back(), 0);
        due("25 the text is not kept", x.count(6), 0);
        due("25 turned back", x.glass(0, 2), 0);
        x.keep();
        x.tell(FIRST);
        x.lay();
        refused(x, "25 nothing kept behind lay", Bank::back, NO);
    }

    static void promise26Count() {
        Bank x = Bank.laid(FIRST.repeat(3) + "y0,1;y1,2;y0,1;c0,9,9;c2,5,5;p0,1;r1,2;");
        edges.dueRow("26 count", Look.counts(x), 3, 2, 3, 0, 0, 0, 81, 0);
        x.minutes(7);
        x.turn(0);
        x.turn(1);
        x.counted(0, 1, 1);
        x.counted(0, 1, 1);
        x.counted(0, 1, 1);
        x.keep();
        x.write(4, 0L);
        edges.dueRow("26 count then", Look.counts(x), 3, 2, 3, 7, 2, 3, 85, 1);
        for (int what : new int[] {-1, 8, LOW, HIGH}) {
            refused(x, "26 what " + what, b -> b.count(what), BAD);
        }
    }
}
