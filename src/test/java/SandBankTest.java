import java.util.function.IntSupplier;

/** The promises one by one; every answer was worked out by hand from the document. */
public final class SandBankTest {
    private static final int BAD = SandBank.BAD, NO = SandBank.NO;
    private static final int FULL = SandBank.FULL, NONE = SandBank.NONE;
    private static final int LOW = Integer.MIN_VALUE, HIGH = Integer.MAX_VALUE;
    private static final String FIRST = "g0,0,1,2,20,0;";
    private static final String FILLED = "g0,0,1,1,999,999;";

    private static final Checks checks = new Checks();

    public static void main(String[] args) {
        constants();
        newObject();
        write();
        wipe();
        faultOfForm();
        faultOfNumbers();
        faultOfTooMany();
        lay();
        glass();
        has();
        minutes();
        minutesOfKinds();
        minutesOfClerks();
        turn();
        pour();
        pourAtTheEdge();
        undo();
        undoOfMany();
        undoForgets();
        later();
        falls();
        empty();
        late();
        gains();
        run();
        round();
        roundOfTies();
        counted();
        stolen();
        split();
        night();
        nightOfSeveral();
        nightHas();
        keepAndBack();
        count();
        checks.close("SandBankTest");
    }

    private static void due(String call, int got, int want) {
        checks.due(call, got, want);
    }

    private static void refused(SandBank x, String call, IntSupplier made, int want) {
        checks.refused(x, call, made, want);
    }

    private static void constants() {
        due("BAD", SandBank.BAD, -1);
        due("NO", SandBank.NO, -2);
        due("FULL", SandBank.FULL, -3);
        due("NONE", SandBank.NONE, -4);
    }

    private static void newObject() {
        SandBank x = new SandBank();
        checks.dueRow("1 count", Checks.counts(x), 1, 0, 0, 0, 0, 0, 0, 0);
        checks.dueRow("1 glass", Checks.glass(x, 0), 20, 0, 0, 0, 2, 0);
        checks.dueRow("1 has", Checks.has(x), 20, 0, 0, 0, 0, 0);
        checks.dueRow("1 stolen", Checks.stolen(x, 0), 0, NONE, NONE, 0);
        refused(x, "1 lay of no text", x::lay, NO);
        refused(x, "1 undo", x::undo, NO);
        refused(x, "1 back", x::back, NO);
        due("1 a second glass", x.glass(1, 0), BAD);
        due("1 no risk", x.night(0, 99, 0), 0);
        due("1 turned alone", x.turn(0), 1);
        due("1 turned back", x.undo(), 0);
        SandBank other = new SandBank();
        other.minutes(5);
        other.turn(0);
        checks.dueRow("1 another object", Checks.glass(x, 0), 20, 0, 0, 0, 2, 0);
    }

    private static void write() {
        SandBank x = new SandBank();
        for (int n : new int[] {0, 9, -1, LOW, HIGH}) {
            refused(x, "2 write " + n, () -> x.write(n, 0x3b3b3b3bL), BAD);
        }
        due("2 write g0,", x.write(3, 0x1122334467302cL), 3);
        due("2 write 0,1,2,20", x.write(8, 0x302c312c322c3230L), 11);
        due("2 write ,0;", x.write(3, 0x2c303bL), 14);
        due("2 read as written", x.fault(), NONE);
        due("2 laid as written", x.lay(), 1);
        checks.dueRow("2 glass as written", Checks.glass(x, 0), 20, 0, 0, 0, 2, 0);
        x.wipe();
        for (int k = 1; k <= 49; k++) {
            due("2 write 8", x.write(8, -1L), 8 * k);
        }
        due("2 write 7", x.write(7, -1L), 399);
        refused(x, "2 write above 400", () -> x.write(2, 0L), FULL);
        refused(x, "2 write far above 400", () -> x.write(8, 0L), FULL);
        due("2 write the last", x.write(1, 0L), 400);
        refused(x, "2 write behind the last", () -> x.write(1, 0L), FULL);
        refused(x, "2 BAD ahead of FULL", () -> x.write(9, 0L), BAD);
    }

    private static void wipe() {
        SandBank x = new SandBank();
        due("3 wipe nothing", x.wipe(), 0);
        Checks.write(x, FIRST + "bad");
        due("3 wipe", x.wipe(), 17);
        due("3 wiped", x.count(6), 0);
        due("3 fault of nothing", x.fault(), NONE);
        Checks.write(x, FIRST.substring(0, 13));
        due("3 what was wiped ends no item", x.fault(), 0);
        due("3 wipe again", x.wipe(), 13);
        Checks.write(x, "g1,2,3,4,5,6;");
        due("3 lay what came behind", x.lay(), 1);
        x.minutes(1);
        due("3 wipe what is laid", x.wipe(), 13);
        checks.dueRow("3 the shelf stays", Checks.glass(x, 0), 1, 10, 0, 1, 4, 2);
    }

    private static void fault(String text, int want) {
        SandBank x = Checks.written(text);
        due("4 fault of " + text, x.fault(), want);
        if (want != NONE) {
            refused(x, "5 lay of " + text, x::lay, NO);
        }
    }

    private static void faultOfForm() {
        fault("", NONE);
        fault(FIRST, NONE);
        fault("g000,000,001,002,020,000;", NONE);
        fault("g0,0,1,2,20,0", 0);
        fault("g0,0,1,2,20,0,", 0);
        fault("g0,0,1,2,20,0,0;", 0);
        fault("g0,0,1,2,20;", 0);
        fault("g0,0,1,2,,0;", 0);
        fault("g,0,1,2,20,0;", 0);
        fault("g0,0,1,2,20,;", 0);
        fault("g0000,0,1,2,20,0;", 0);
        fault("g0,0,1,2,0020,0;", 0);
        fault("g0,0,1,2,20,-1;", 0);
        fault("g0, 0,1,2,20,0;", 0);
        fault("g0;0,1,2,20,0;", 0);
        fault("g0.0,1,2,20,0;", 0);
        fault("G0,0,1,2,20,0;", 0);
        fault("x0;", 0);
        fault(";", 0);
        fault(" " + FIRST, 0);
        fault(FIRST + ";", 14);
        fault(FIRST + "\n", 14);
        fault(FIRST + "\0", 14);
        fault(FIRST + (char) 0xe7 + "0,1,0;", 14);
        fault(FIRST + "g", 14);
        fault(FIRST + "c0,1", 14);
        fault(FIRST + "c0,1;", 14);
        fault(FIRST + "c0,1,1,1;", 14);
        fault(FIRST + "y0;", 14);
        fault(FIRST + "p0;", 14);
        fault(FIRST + "p0,0,0;", 14);
        fault(FIRST + "r0;", 14);
        fault(FIRST + "r1,1,1;", 14);
        fault(FIRST + "z" + FIRST + "q", 14);
        fault(FIRST + "r1,1;" + "p0,6;" + "x", 19);
    }

    private static void faultOfNumbers() {
        fault("g3,5,5,60,999,999;", NONE);
        fault("g0,0,0,1,0,0;", NONE);
        fault("g4,0,1,2,20,0;", 0);
        fault("g0,6,1,2,20,0;", 0);
        fault("g0,0,6,2,20,0;", 0);
        fault("g0,0,1,0,20,0;", 0);
        fault("g0,0,1,61,20,0;", 0);
        fault("g0,0,1,2,1000,0;", 0);
        fault("g0,0,1,2,20,1000;", 0);
        fault(FIRST + FIRST + "y0,1;y1,0;y0,1;", NONE);
        fault(FIRST + FIRST + "y0,0;", 28);
        fault(FIRST + FIRST + "y0,2;", 28);
        fault(FIRST + FIRST + "y2,0;", 28);
        fault(FIRST + "y0,1;" + FIRST, 14);
        fault(FIRST + "c0,1,0;c0,99,99;", NONE);
        fault(FIRST + "c1,1,0;", 14);
        fault(FIRST + "c0,0,0;", 14);
        fault(FIRST + "c0,100,0;", 14);
        fault(FIRST + "c0,1,100;", 14);
        fault("c0,1,0;" + FIRST, 0);
        fault(FIRST + "p0,0;p0,5;", NONE);
        fault(FIRST + "p0,6;", 14);
        fault(FIRST + "p1,0;", 14);
        fault("p0,0;" + FIRST, 0);
        fault("r0,0;r99,99;", NONE);
        fault("r100,0;", 0);
        fault("r0,100;", 0);
    }

    private static void faultOfTooMany() {
        fault(FIRST.repeat(8), NONE);
        fault(FIRST.repeat(9), 112);
        fault(FIRST + FIRST + "y0,1;".repeat(8), NONE);
        fault(FIRST + FIRST + "y0,1;".repeat(9), 68);
        fault(FIRST + "c0,5,5;".repeat(8), NONE);
        fault(FIRST + "c0,5,5;".repeat(9), 70);
        fault(FIRST + "p0,1;".repeat(20), NONE);
        fault("r1,1;".repeat(80), NONE);
        fault("r1,1;".repeat(79) + "r1,1,", 395);
        fault("r1,1;".repeat(79) + "r1,10", 395);
        fault("r1,1;".repeat(79) + "p0,1;", 395);
    }

    private static void lay() {
        SandBank x = Checks.laid("g1,0,1,3,30,1;" + FIRST + "y0,1;c0,2,0;");
        checks.dueRow("5 count", Checks.counts(x), 2, 1, 1, 0, 0, 0, 40, 0);
        x.minutes(4);
        x.turn(0);
        x.counted(0, 1, 2);
        x.keep();
        checks.dueRow("5 count then", Checks.counts(x), 2, 1, 1, 4, 1, 1, 40, 1);
        x.write(1, 'x');
        refused(x, "5 lay with a fault", x::lay, NO);
        x.wipe();
        refused(x, "5 lay without a text", x::lay, NO);
        Checks.write(x, "r1,1;");
        due("5 no fault", x.fault(), NONE);
        refused(x, "5 lay without a glass", x::lay, NO);
        Checks.write(x, "g2,3,4,5,7,6;p0,1;");
        due("5 lay again", x.lay(), 1);
        checks.dueRow("5 count again", Checks.counts(x), 1, 0, 0, 0, 0, 0, 23, 0);
        checks.dueRow("5 glass again", Checks.glass(x, 0), 7, 6, 0, 2, 5, 1);
        due("5 the same once more", x.lay(), 1);
        refused(x, "5 nothing kept", x::back, NO);
        refused(x, "5 nothing undone", x::undo, NO);
        x.wipe();
        Checks.write(x, "g0,0,1,1,5,5;g0,0,1,1,5,5;");
        due("5 lay without partners, ties", x.lay(), 2);
        due("5 partner is A", x.glass(0, 5), 0);
        due("5 nothing tied", x.turn(0), 1);
        due("5 no risk", x.night(0, 500, 0), 0);
        x.write(8, 0x7239392c39393b79L);
        refused(x, "5 read, but not laid", x::lay, NO);
        due("5 no risk of what was only read", x.night(0, 500, 0), 0);
        x.wipe();
        Checks.write(x, FIRST + "r99,99;");
        x.lay();
        due("5 a risk", x.night(0, 500, 0), 20);
        for (int k = 0; k < 2; k++) {
            x.wipe();
            Checks.write(x, FIRST);
            x.lay();
            due("5 no risk any more", x.night(0, 500, 0), 0);
        }
    }

    private static void glass() {
        SandBank x = Checks.laid("g0,0,1,2,20,3;g1,2,3,60,0,999;g2,4,5,7,9,8;g3,1,1,1,1,1;p2,3;p2,1;p1,5;");
        checks.dueRow("6 plain", Checks.glass(x, 0), 20, 3, 0, 0, 2, 0);
        checks.dueRow("6 damp", Checks.glass(x, 1), 0, 999, 0, 1, 60, 5);
        checks.dueRow("6 two-topped", Checks.glass(x, 2), 9, 8, 0, 2, 7, 1);
        checks.dueRow("6 wide", Checks.glass(x, 3), 1, 1, 0, 3, 1, 1);
        x.turn(2);
        x.minutes(1);
        checks.dueRow("6 turned", Checks.glass(x, 2), 16, 1, 1, 2, 7, 1);
        for (int i : new int[] {-1, 4, 8, LOW, HIGH}) {
            refused(x, "6 glass " + i, () -> x.glass(i, 0), BAD);
        }
        for (int what : new int[] {-1, 6, LOW, HIGH}) {
            refused(x, "6 what " + what, () -> x.glass(0, what), BAD);
        }
    }

    private static void has() {
        SandBank x = Checks.laid("g0,0,1,2,20,3;g1,1,0,2,5,7;g3,4,4,1,10,11;");
        checks.dueRow("7 has", Checks.has(x), 27, 8, 0, 0, 21, 0);
        SandBank two = Checks.laid("g2,0,1,5,21,3;p0,4;");
        checks.dueRow("7 half, cut", Checks.has(two), 11, 3, 0, 0, 10, 0);
        two.turn(0);
        checks.dueRow("7 half, turned", Checks.has(two), 11, 3, 0, 0, 10, 0);
        two.turn(0);
        two.minutes(1);
        checks.dueRow("7 half, later", Checks.has(two), 8, 8, 0, 0, 8, 0);
        checks.dueRow("7 no partner", Checks.has(Checks.laid("g2,2,1,5,21,3;")), 0, 3, 21, 0, 0, 0);
        checks.dueRow("7 B is partner", Checks.has(Checks.laid("g2,2,1,5,21,3;p0,1;")),
                0, 13, 11, 0, 0, 0);
        checks.dueRow("7 partner of a plain one", Checks.has(Checks.laid("g0,2,1,5,21,3;p0,5;")),
                0, 3, 21, 0, 0, 0);
        for (int h : new int[] {-1, 6, LOW, HIGH}) {
            refused(x, "7 hand " + h, () -> x.has(h), BAD);
        }
    }

    private static void minutes() {
        SandBank x = new SandBank();
        for (int n : new int[] {0, -1, 1000, LOW, HIGH}) {
            refused(x, "8 minutes " + n, () -> x.minutes(n), BAD);
        }
        due("8 one", x.minutes(1), 1);
        checks.dueRow("8 one has", Checks.has(x), 18, 2, 0, 0, 0, 0);
        due("8 nine", x.minutes(9), 10);
        checks.dueRow("8 ten has", Checks.has(x), 0, 20, 0, 0, 0, 0);
        due("8 no more than there are", x.minutes(999), 1009);
        checks.dueRow("8 all fell", Checks.has(x), 0, 20, 0, 0, 0, 0);
        SandBank few = Checks.laid("g0,0,1,3,4,0;");
        few.minutes(2);
        checks.dueRow("8 the last falls alone", Checks.has(few), 0, 4, 0, 0, 0, 0);
        for (int k = 1; k <= 999; k++) {
            x.minutes(999);
        }
        due("8 far on", x.count(3), 1009 + 999 * 999);
        due("8 nearly there", x.minutes(989), 999999);
        refused(x, "8 above the last", () -> x.minutes(2), NO);
        due("8 the last", x.minutes(1), 1000000);
        refused(x, "8 behind the last", () -> x.minutes(1), NO);
        refused(x, "8 BAD ahead of NO", () -> x.minutes(1000), BAD);
    }

    private static void minutesOfKinds() {
        SandBank x = Checks.laid("g0,0,5,4,100,0;g1,1,5,4,100,0;g2,2,5,4,100,0;g3,3,5,4,100,0;");
        int[][] want = {{96, 96, 96, 92}, {92, 92, 92, 84}, {88, 92, 88, 84}, {84, 88, 84, 76},
            {80, 84, 80, 68}, {76, 84, 76, 68}, {72, 80, 72, 60}};
        for (int m = 0; m < want.length; m++) {
            due("8 minute by minute", x.minutes(1), m + 1);
            for (int h = 0; h < 4; h++) {
                due("8 kind " + h + " behind minute " + m, x.has(h), want[m][h]);
            }
        }
        SandBank once = Checks.laid("g0,0,5,4,100,0;g1,1,5,4,100,0;g2,2,5,4,100,0;g3,3,5,4,100,0;");
        due("8 all at once", once.minutes(7), 7);
        checks.dueRow("8 the same", Checks.has(once), 72, 80, 72, 60, 0, 116);
        SandBank deep = Checks.laid("g3,0,1,60,119,0;");
        deep.minutes(1);
        checks.dueRow("8 wide, no more than there are", Checks.has(deep), 0, 119, 0, 0, 0, 0);
    }

    private static void minutesOfClerks() {
        SandBank x = Checks.laid(FIRST + "c0,3,1;");
        int[] want = {18, 20, 20, 20, 18, 16, 14, 16, 18, 20, 18};
        int[] up = {0, 1, 1, 1, 0, 0, 0, 1, 1, 1, 0};
        for (int m = 0; m < want.length; m++) {
            x.minutes(1);
            due("8 clerk, behind minute " + m, x.has(0), want[m]);
            due("8 clerk, up behind minute " + m, x.glass(0, 2), up[m]);
        }
        SandBank both = Checks.laid(FIRST + "c0,2,0;c0,4,0;");
        both.minutes(1);
        due("8 two clerks in one minute", both.glass(0, 2), 0);
        both.minutes(2);
        due("8 one of two clerks", both.glass(0, 2), 1);
        SandBank tied = Checks.laid(FIRST + FIRST + "y0,1;c0,1,0;c1,1,1;");
        tied.minutes(1);
        due("8 clerk turns what is tied", tied.glass(1, 2), 1);
        tied.minutes(1);
        due("8 the first is turned again", tied.glass(0, 2), 0);
        due("8 the tied one is turned twice", tied.glass(1, 2), 1);
        SandBank last = Checks.laid(FIRST + "c0,99,99;");
        last.minutes(99);
        due("8 ahead of the clerk's first", last.glass(0, 2), 0);
        last.minutes(1);
        due("8 the clerk's first", last.glass(0, 2), 1);
        last.minutes(98);
        due("8 ahead of his second", last.glass(0, 2), 1);
        last.minutes(1);
        due("8 his second", last.glass(0, 2), 0);
    }

    private static void turn() {
        SandBank x = Checks.laid(FIRST.repeat(4) + "y0,1;y0,2;y1,3;y2,3;");
        due("9 turn all, each once", x.turn(0), 4);
        for (int i = 0; i < 4; i++) {
            due("9 up of " + i, x.glass(i, 2), 1);
        }
        due("9 turn with one", x.turn(1), 2);
        due("9 not the one it is tied to", x.glass(0, 2), 1);
        due("9 the other one", x.glass(3, 2), 0);
        due("9 turn alone", x.turn(3), 1);
        due("9 turned back", x.glass(3, 2), 1);
        checks.dueRow("9 no grain moves", Checks.has(x), 80, 0, 0, 0, 0, 0);
        for (int i : new int[] {-1, 4, LOW, HIGH}) {
            refused(x, "9 turn " + i, () -> x.turn(i), BAD);
        }
        SandBank ring = Checks.laid(FIRST.repeat(3) + "y0,1;y1,2;y2,0;");
        due("9 a ring", ring.turn(1), 3);
        due("9 a ring's first, once", ring.glass(1, 2), 1);
        SandBank chain = Checks.laid(FIRST.repeat(8) + "y7,6;y6,5;y5,4;y4,3;y3,2;y2,1;y1,0;");
        due("9 a long chain", chain.turn(7), 8);
        due("9 a long chain's end", chain.turn(0), 1);
        SandBank again = Checks.laid(FIRST.repeat(2) + "y0,1;y0,1;");
        due("9 tied twice", again.turn(0), 2);
        due("9 tied twice, once turned", again.glass(1, 2), 1);
    }

    private static void pour() {
        SandBank x = Checks.laid("g0,0,1,2,20,6;g1,2,3,4,100,0;");
        due("10 within a glass", x.pour(0, 0, 0, 1, 5), 11);
        due("10 and back", x.pour(0, 1, 0, 0, 11), 26);
        due("10 into another one", x.pour(1, 0, 0, 1, 100), 100);
        checks.dueRow("10 then", Checks.has(x), 26, 100, 0, 0, 0, 0);
        refused(x, "10 of none", () -> x.pour(1, 0, 0, 0, 1), NO);
        refused(x, "10 not so many", () -> x.pour(0, 0, 1, 0, 27), NO);
        refused(x, "10 into itself", () -> x.pour(0, 0, 0, 0, 1), BAD);
        refused(x, "10 into itself, not so many", () -> x.pour(0, 1, 0, 1, 9999), BAD);
        for (int wrong : new int[] {-1, 2, LOW, HIGH}) {
            refused(x, "10 glass " + wrong, () -> x.pour(wrong, 0, 0, 1, 1), BAD);
            refused(x, "10 bulb " + wrong, () -> x.pour(0, wrong, 0, 1, 1), BAD);
            refused(x, "10 into glass " + wrong, () -> x.pour(0, 0, wrong, 1, 1), BAD);
            refused(x, "10 into bulb " + wrong, () -> x.pour(0, 0, 0, wrong, 1), BAD);
        }
        for (int n : new int[] {0, -1, 10000, LOW, HIGH}) {
            refused(x, "10 grains " + n, () -> x.pour(0, 0, 0, 1, n), BAD);
        }
        due("10 three can be undone", x.count(4), 3);
    }

    private static void pourAtTheEdge() {
        SandBank x = Checks.laid(FILLED.repeat(8));
        int there = 999;
        for (int i = 1; i <= 7; i++) {
            there += 999;
            due("10 heaped", x.pour(i, 0, 0, 0, 999), there);
        }
        due("10 heaped more", x.pour(1, 1, 0, 0, 999), 8991);
        due("10 heaped yet more", x.pour(2, 1, 0, 0, 999), 9990);
        refused(x, "10 above 9999", () -> x.pour(3, 1, 0, 0, 10), NO);
        due("10 up to 9999", x.pour(3, 1, 0, 0, 9), 9999);
        refused(x, "10 one more", () -> x.pour(3, 1, 0, 0, 1), NO);
        due("10 all of them", x.pour(0, 0, 7, 0, 9999), 9999);
        due("10 none left", x.glass(0, 0), 0);
    }

    private static void undo() {
        SandBank x = Checks.laid("g0,0,1,2,20,6;g1,2,3,4,100,0;y1,0;");
        x.pour(0, 0, 1, 1, 15);
        x.turn(1);
        x.pour(1, 1, 0, 1, 7);
        due("11 known", x.count(4), 3);
        due("11 the pouring", x.undo(), 2);
        checks.dueRow("11 as ahead of it", Checks.has(x), 5, 6, 100, 15, 0, 0);
        due("11 still turned", x.glass(0, 2), 1);
        due("11 the turn", x.undo(), 1);
        due("11 turned back", x.glass(1, 2), 0);
        due("11 turned back, too", x.glass(0, 2), 0);
        due("11 the first", x.undo(), 0);
        checks.dueRow("11 as at first", Checks.has(x), 20, 6, 100, 0, 0, 0);
        refused(x, "11 no more", x::undo, NO);
        for (int k = 1; k <= 10; k++) {
            x.pour(1, 0, 1, 1, k);
        }
        due("11 eight at most", x.count(4), 8);
        for (int k = 7; k >= 0; k--) {
            due("11 one of eight", x.undo(), k);
        }
        due("11 the oldest are forgotten", x.glass(1, 1), 3);
        refused(x, "11 none of the forgotten", x::undo, NO);
    }

    private static void undoOfMany() {
        SandBank x = Checks.laid(FIRST + "g0,2,3,1,50,50;g0,4,5,1,50,50;");
        String[] states = new String[23];
        for (int k = 0; k < 23; k++) {
            states[k] = glasses(x);
            int done = k % 3 == 0 ? x.turn(k % 2) : x.pour(1 + k % 2, k / 2 % 2, 2 - k % 2, k % 2, k);
            due("11 done", done > 0 ? 1 : 0, 1);
        }
        for (int k = 22; k >= 15; k--) {
            due("11 one of many", x.undo(), k - 15);
            due("11 as ahead of " + k, glasses(x).equals(states[k]) ? 1 : 0, 1);
        }
        refused(x, "11 no more of many", x::undo, NO);
        for (int k = 0; k < 8; k++) {
            x.turn(0);
        }
        for (int k = 0; k < 8; k++) {
            x.undo();
        }
        x.pour(0, 0, 0, 1, 1);
        due("11 a pouring where a turn was", x.undo(), 0);
        due("11 poured back", x.glass(0, 0), 20);
        due("11 not turned", x.glass(0, 2), 1);
    }

    private static String glasses(SandBank x) {
        StringBuilder all = new StringBuilder();
        for (int i = 0; i < x.count(0); i++) {
            all.append(java.util.Arrays.toString(Checks.glass(x, i)));
        }
        return all.toString();
    }

    private static void undoForgets() {
        SandBank x = new SandBank();
        x.turn(0);
        refused(x, "11 minutes refused", () -> x.minutes(0), BAD);
        due("11 stays known", x.count(4), 1);
        x.minutes(1);
        due("11 none behind a minute", x.count(4), 0);
        refused(x, "11 nothing behind a minute", x::undo, NO);
        x.turn(0);
        x.keep();
        due("11 known behind keep", x.count(4), 1);
        due("11 undone behind keep", x.undo(), 0);
        x.turn(0);
        x.back();
        refused(x, "11 nothing behind back", x::undo, NO);
        due("11 as kept", x.glass(0, 2), 0);
    }

    private static void later() {
        SandBank x = Checks.laid(FIRST + "c0,3,1;");
        int[] want = {20, 18, 20, 20, 20, 18, 16, 14, 16, 18, 20, 18};
        for (int t = 0; t < want.length; t++) {
            checks.dueRow("12 later " + t, Checks.later(x, t), want[t], 20 - want[t], 0, 0, 0, 0);
        }
        x.minutes(5);
        due("12 from now on", x.later(2, 0), 14);
        due("12 the shelf stays", x.has(0), 18);
        due("12 the minute stays", x.count(3), 5);
        x.turn(0);
        due("12 of a turned one", x.later(1, 0), 20);
        due("12 undo stays", x.undo(), 0);
        SandBank half = Checks.laid("g2,0,1,5,21,3;p0,4;");
        checks.dueRow("12 half", Checks.later(half, 1), 8, 8, 0, 0, 8, 0);
        due("12 the longest", half.later(20000, 1), 24);
        for (int t : new int[] {-1, 20001, LOW, HIGH}) {
            refused(x, "12 minutes " + t, () -> x.later(t, 0), BAD);
        }
        for (int h : new int[] {-1, 6, LOW, HIGH}) {
            refused(x, "12 hand " + h, () -> x.later(1, h), BAD);
        }
    }

    private static void falls() {
        SandBank x = Checks.laid(FIRST + "g1,2,3,4,10,5;c0,3,1;");
        due("13 none", x.falls(0, 0, 0), 0);
        due("13 out of A's", x.falls(7, 0, 0), 8);
        due("13 out of B's", x.falls(7, 0, 1), 2);
        due("13 out of B's later", x.falls(10, 0, 1), 8);
        due("13 damp", x.falls(3, 1, 0), 8);
        due("13 damp, all", x.falls(20000, 1, 0), 10);
        due("13 not out of the lower", x.falls(20000, 1, 1), 0);
        due("13 the shelf stays", x.has(0), 20);
        x.turn(1);
        due("13 turned", x.falls(1, 1, 1), 4);
        x.minutes(2);
        due("13 sticks now", x.falls(1, 1, 1), 0);
        for (int t : new int[] {-1, 20001, LOW, HIGH}) {
            refused(x, "13 minutes " + t, () -> x.falls(t, 0, 0), BAD);
        }
        for (int wrong : new int[] {-1, 2, LOW, HIGH}) {
            refused(x, "13 glass " + wrong, () -> x.falls(1, wrong, 0), BAD);
            refused(x, "13 bulb " + wrong, () -> x.falls(1, 0, wrong), BAD);
        }
    }

    private static void empty() {
        SandBank x = Checks.laid(FIRST + "c0,3,1;");
        int[] want = {0, 0, 0, 1, 2, 2, 2, 2, 2, 2, 2};
        for (int t = 0; t < want.length; t++) {
            due("14 empty " + t, x.empty(t), want[t]);
        }
        due("14 the shelf stays", x.has(0), 20);
        SandBank two = Checks.laid("g0,0,1,1,0,0;g0,0,1,1,0,0;");
        due("14 a minute counts once", two.empty(9), 9);
        due("14 the longest", two.empty(20000), 20000);
        SandBank runs = Checks.laid("g0,0,1,1,3,0;g0,0,1,1,5,0;");
        due("14 not yet", runs.empty(3), 0);
        due("14 from the third on", runs.empty(10), 7);
        SandBank turned = Checks.laid("g0,0,1,1,0,5;c0,99,0;");
        due("14 looked at behind the clerks", turned.empty(5), 0);
        due("14 and run out", turned.empty(6), 1);
        for (int t : new int[] {-1, 20001, LOW, HIGH}) {
            refused(x, "14 minutes " + t, () -> x.empty(t), BAD);
        }
    }

    private static void late() {
        SandBank x = Checks.laid(FIRST + "c0,3,1;");
        due("15 at once", x.late(0, 2, 0, 0), 100000);
        due("15 not late", x.late(0, 0, 9, 0), 100000);
        due("15 less", x.late(0, 2, 2, 0), 99996);
        due("15 more", x.late(0, 2, 2, 1), 100004);
        due("15 untouched", x.late(0, 2, 2, 5), 100000);
        due("15 he goes on behind his first", x.late(0, 2, 4, 0), 100000 + 16 - 20);
        x.minutes(5);
        due("15 begun again later", x.late(0, 99, 3, 0), 99996);
        due("15 the shelf stays", x.has(0), 18);
        SandBank two = Checks.laid(FIRST + "g0,2,3,5,50,0;c0,2,0;c1,2,1;");
        due("15 the other clerk is in time", two.late(0, 99, 2, 2), 100000);
        due("15 the second clerk", two.late(1, 1, 2, 2), 99990);
        due("15 the second clerk's gain", two.late(1, 1, 2, 3), 100010);
        due("15 the longest", two.late(1, 99, 20000, 0), 100000);
        for (int k : new int[] {-1, 2, LOW, HIGH}) {
            refused(two, "15 clerk " + k, () -> two.late(k, 0, 0, 0), BAD);
        }
        for (int m : new int[] {-1, 100, LOW, HIGH}) {
            refused(two, "15 late " + m, () -> two.late(0, m, 0, 0), BAD);
        }
        for (int t : new int[] {-1, 20001, LOW, HIGH}) {
            refused(two, "15 minutes " + t, () -> two.late(0, 0, t, 0), BAD);
        }
        for (int h : new int[] {-1, 6, LOW, HIGH}) {
            refused(two, "15 hand " + h, () -> two.late(0, 0, 0, h), BAD);
        }
        due("15 no clerk", new SandBank().late(0, 0, 0, 0), BAD);
    }

    private static void gains() {
        SandBank x = Checks.laid(FIRST + "c0,3,1;");
        due("16 who", x.gains(0, 2, 2, 0), 1);
        due("16 how much", x.gains(0, 2, 2, 1), 100004);
        due("16 nobody: the lowest", x.gains(0, 0, 9, 0), 0);
        due("16 nothing", x.gains(0, 0, 9, 1), 100000);
        SandBank equal = Checks.laid("g0,5,4,2,20,0;g0,5,3,2,20,0;y0,1;c0,9,1;");
        due("16 of several the lowest", equal.gains(0, 9, 2, 0), 3);
        due("16 of several, how much", equal.gains(0, 9, 2, 1), 100004);
        SandBank last = Checks.laid("g0,0,5,2,20,0;c0,9,1;");
        due("16 the last hand", last.gains(0, 9, 2, 0), 5);
        due("16 the shelf stays", last.has(0), 20);
        for (int k : new int[] {-1, 1, LOW, HIGH}) {
            refused(x, "16 clerk " + k, () -> x.gains(k, 0, 0, 0), BAD);
        }
        for (int m : new int[] {-1, 100, LOW, HIGH}) {
            refused(x, "16 late " + m, () -> x.gains(0, m, 0, 0), BAD);
        }
        for (int t : new int[] {-1, 20001, LOW, HIGH}) {
            refused(x, "16 minutes " + t, () -> x.gains(0, 0, t, 0), BAD);
        }
        for (int what : new int[] {-1, 2, LOW, HIGH}) {
            refused(x, "16 what " + what, () -> x.gains(0, 0, 0, what), BAD);
        }
    }

    private static void run(SandBank x, String when, int first, int soonest, int longest) {
        due("17 " + when + ", the glass", x.run(0), first);
        due("17 " + when + ", behind", x.run(1), soonest);
        due("17 " + when + ", all behind", x.run(2), longest);
    }

    private static void run() {
        SandBank x = Checks.laid("g0,0,1,3,10,0;g1,0,1,2,8,0;g3,0,1,2,8,0;c2,1,0;");
        run(x, "no clerk turns", 2, 2, 5);
        SandBank still = Checks.laid("g0,0,1,3,10,0;g1,0,1,2,8,0;g3,0,1,2,8,0;");
        still.minutes(2);
        run(still, "from now on", 2, 0, 3);
        still.turn(1);
        run(still, "turned", 2, 0, 3);
        run(Checks.laid("g0,0,1,1,5,9;g0,0,1,1,5,0;g0,0,1,2,10,0;"), "of several", 0, 5, 5);
        run(Checks.laid("g2,0,1,1,999,0;g1,0,1,1,999,0;"), "long", 0, 999, 1498);
        SandBank heap = Checks.laid("g1,0,1,1,999,999;" + FILLED.repeat(7));
        for (int i = 1; i < 8; i++) {
            heap.pour(i, 0, 0, 0, 999);
        }
        run(heap, "heaped", 1, 0, 11987);
        refused(x, "17 what", () -> x.run(3), BAD);
        refused(x, "17 below", () -> x.run(-1), BAD);
        refused(x, "17 far below", () -> x.run(LOW), BAD);
        refused(x, "17 far above", () -> x.run(HIGH), BAD);
    }

    private static void round() {
        SandBank x = Checks.laid("g0,0,1,1,3,0;g0,0,1,1,0,3;c0,1,0;");
        due("18 the fewest", x.round(1, 1, -1), 0);
        due("18 the glass", x.round(1, 1, 0), 1);
        due("18 a second one that is not reached", x.round(2, 1, 1), 0);
        due("18 the first of two", x.round(2, 1, 0), 1);
        due("18 the shelf stays", x.glass(1, 2), 0);
        SandBank two = Checks.laid("g0,0,1,1,3,0;g0,0,1,1,3,0;");
        due("18 counted in all minutes", two.round(1, 4, -1), 2);
        due("18 of several the first", two.round(1, 4, 0), 0);
        SandBank none = Checks.laid("g0,0,1,1,0,0;g0,0,1,1,0,0;g1,0,1,1,0,0;");
        due("18 each glass counts", none.round(3, 200, -1), 600);
        due("18 all alike", none.round(3, 200, 2), 0);
        for (int l : new int[] {0, -1, 4, LOW, HIGH}) {
            refused(x, "18 length " + l, () -> x.round(l, 1, -1), BAD);
        }
        for (int n : new int[] {0, -1, 201, LOW, HIGH}) {
            refused(x, "18 minutes " + n, () -> x.round(1, n, -1), BAD);
        }
        for (int i : new int[] {-2, 2, 3, LOW, HIGH}) {
            refused(x, "18 place " + i, () -> x.round(2, 1, i), BAD);
        }
        due("18 no second of one", x.round(1, 1, 1), BAD);
    }

    /** Both are turned first; the damp one's sand sticks, so that 1 alone is turned next. */
    private static void roundOfTies() {
        SandBank x = Checks.laid("g1,0,1,1,0,9;g0,0,1,9,0,9;y0,1;");
        x.minutes(2);
        due("18 tied, how often", x.round(2, 2, -1), 0);
        due("18 tied, the first", x.round(2, 2, 0), 0);
        due("18 tied, the second", x.round(2, 2, 1), 1);
        SandBank back = Checks.laid("g0,0,1,9,0,9;g0,0,1,1,0,9;y1,0;");
        due("18 tied back, how often", back.round(2, 2, -1), 0);
        due("18 tied back, the first", back.round(2, 2, 0), 1);
        due("18 tied back, the second", back.round(2, 2, 1), 0);
        due("18 tied back, from the first on again", back.round(2, 3, -1), 0);
        SandBank damp = Checks.laid("g1,0,1,1,1,1;");
        damp.minutes(2);
        due("18 from this minute on, in which damp sand sticks", damp.round(1, 1, -1), 0);
        due("18 and then", damp.round(1, 2, -1), 1);
    }

    private static void counted() {
        SandBank x = Checks.laid(FIRST + FIRST);
        for (int i : new int[] {-1, 2, LOW, HIGH}) {
            refused(x, "19 glass " + i, () -> x.counted(i, 0, 0), BAD);
        }
        for (int m : new int[] {-1, 20001, LOW, HIGH}) {
            refused(x, "19 minute " + m, () -> x.counted(0, m, 0), BAD);
        }
        for (int n : new int[] {-1, 10000, LOW, HIGH}) {
            refused(x, "19 grains " + n, () -> x.counted(0, 0, n), BAD);
        }
        due("19 the least", x.counted(0, 0, 0), 1);
        due("19 the most", x.counted(1, 20000, 9999), 2);
        for (int k = 3; k <= 12; k++) {
            due("19 more", x.counted(1, 5, 20), k);
        }
        refused(x, "19 a thirteenth", () -> x.counted(0, 1, 1), FULL);
        refused(x, "19 BAD ahead of FULL", () -> x.counted(2, 1, 1), BAD);
        due("19 minutes leave it", x.minutes(3), 3);
        due("19 still twelve", x.count(5), 12);
    }

    private static void stolen() {
        SandBank x = Checks.laid("g0,0,1,2,20,5;g0,2,3,2,7,0;");
        checks.dueRow("20 none", Checks.stolen(x, 0), 0, NONE, NONE, 0);
        x.counted(1, 1, 0);
        checks.dueRow("20 of another glass", Checks.stolen(x, 0), 0, NONE, NONE, 0);
        checks.dueRow("20 of it", Checks.stolen(x, 1), 7, 1, NONE, 0);
        x.counted(0, 50, 25);
        x.counted(0, 60, 30);
        checks.dueRow("20 no fewer", Checks.stolen(x, 0), 0, NONE, NONE, 1);
        x.counted(0, 40, 24);
        checks.dueRow("20 one fewer", Checks.stolen(x, 0), 1, 40, NONE, 2);
        x.counted(0, 30, 25);
        x.counted(0, 35, 26);
        x.counted(0, 20, 25);
        checks.dueRow("20 since the last ahead", Checks.stolen(x, 0), 1, 40, 35, 3);
        x.counted(0, 40, 25);
        checks.dueRow("20 not in the same minute", Checks.stolen(x, 0), 1, 40, 35, 3);
        x.counted(0, 45, 10);
        checks.dueRow("20 the fewest", Checks.stolen(x, 0), 15, 40, 35, 3);
        x.pour(0, 0, 1, 0, 20);
        x.minutes(100);
        checks.dueRow("20 less than told", Checks.stolen(x, 0), 15, 40, 35, 3);
        x.counted(0, 0, 24);
        checks.dueRow("20 in minute 0", Checks.stolen(x, 0), 15, 0, NONE, 6);
        for (int i : new int[] {-1, 2, LOW, HIGH}) {
            refused(x, "20 glass " + i, () -> x.stolen(i, 0), BAD);
        }
        for (int what : new int[] {-1, 4, LOW, HIGH}) {
            refused(x, "20 what " + what, () -> x.stolen(0, what), BAD);
        }
        SandBank same = new SandBank();
        same.counted(0, 7, 3);
        same.counted(0, 7, 4);
        same.counted(0, 8, 3);
        checks.dueRow("20 no later, no more", Checks.stolen(same, 0), 17, 7, NONE, 0);
        same.counted(0, 0, 20);
        checks.dueRow("20 since minute 0", Checks.stolen(same, 0), 17, 7, 0, 0);
        SandBank first = new SandBank();
        first.counted(0, 1, 20);
        first.counted(0, 2, 19);
        checks.dueRow("20 the first told", Checks.stolen(first, 0), 1, 2, 1, 0);
        SandBank late = new SandBank();
        late.counted(0, 2, 19);
        late.counted(0, 1, 18);
        checks.dueRow("20 the first told is false", Checks.stolen(late, 0), 2, 1, NONE, 1);
    }

    private static void split() {
        SandBank x = Checks.laid("g0,0,1,1,5,3;g0,2,3,1,2,0;");
        checks.dueRow("21 seven", Checks.split(x, 7), 4, 2, 1, 0, 0, 0);
        checks.dueRow("21 nine", Checks.split(x, 9), 4, 3, 2, 0, 0, 0);
        checks.dueRow("21 ten", Checks.split(x, 10), 5, 3, 2, 0, 0, 0);
        checks.dueRow("21 one", Checks.split(x, 1), 1, 0, 0, 0, 0, 0);
        checks.dueRow("21 nothing", Checks.split(x, 0), 0, 0, 0, 0, 0, 0);
        checks.dueRow("21 the most", Checks.split(x, 9999), 4999, 3000, 2000, 0, 0, 0);
        SandBank alike = Checks.laid("g0,1,3,1,1,1;g0,5,5,1,1,0;");
        checks.dueRow("21 alike, one left", Checks.split(alike, 10), 0, 4, 0, 3, 0, 3);
        checks.dueRow("21 alike, two left", Checks.split(alike, 11), 0, 4, 0, 4, 0, 3);
        SandBank none = Checks.laid("g0,0,1,1,0,0;");
        refused(none, "21 all have none", () -> none.split(5, 0), NONE);
        refused(none, "21 nothing of none", () -> none.split(0, 0), NONE);
        refused(none, "21 BAD ahead of NONE", () -> none.split(5, 6), BAD);
        for (int r : new int[] {-1, 10000, LOW, HIGH}) {
            refused(x, "21 grains " + r, () -> x.split(r, 0), BAD);
        }
        for (int h : new int[] {-1, 6, LOW, HIGH}) {
            refused(x, "21 hand " + h, () -> x.split(1, h), BAD);
        }
        x.minutes(2);
        checks.dueRow("21 as they have now", Checks.split(x, 10), 3, 5, 0, 2, 0, 0);
    }

    /** DRAW(0, 0) is 1 and DRAW(0, 1) is 110 by 0; DRAW(0, 0) is 803 by 1. */
    private static void night() {
        SandBank x = Checks.laid(FIRST + "r2,0;");
        due("22 no minute", x.night(0, 0, 0), 0);
        due("22 broken: lost", x.night(0, 1, 0), 20);
        due("22 broken", x.night(0, 1, 1), 1);
        due("22 by another number", x.night(1, 1, 1), 0);
        due("22 the shelf stays", x.has(0), 20);
        x.minutes(1);
        due("22 drawn from its own first minute", x.night(0, 1, 1), 1);
        due("22 the other bulb, too", x.night(0, 1, 0), 20);
        due("22 1 is not below 1", Checks.laid(FIRST + "r1,0;").night(0, 1, 0), 0);
        due("22 a mouse from R on", Checks.laid(FIRST + "r1,1;").night(0, 1, 0), 3);
        due("22 a mouse breaks none", Checks.laid(FIRST + "r1,1;").night(0, 1, 1), 0);
        due("22 1 is not below 0 and 1", Checks.laid(FIRST + "r0,1;").night(0, 1, 0), 0);
        due("22 1 is below 0 and 2", Checks.laid(FIRST + "r0,2;").night(0, 1, 0), 3);
        due("22 110 is below 99 and 99", Checks.laid(FIRST + "r1,0;r99,99;r12,99;").night(0, 2, 0), 20);
        due("22 110 is a mouse's", Checks.laid(FIRST + "r0,99;").night(0, 2, 0), 3);
        due("22 no more than there are", Checks.laid("g0,0,1,2,2,5;r0,2;").night(0, 1, 0), 2);
        due("22 of the upper bulb", Checks.laid("g0,0,1,2,0,5;r0,2;").night(0, 1, 0), 0);
        due("22 behind the clerks", Checks.laid("g0,0,1,2,0,5;c0,1,0;r0,2;").night(0, 1, 0), 3);
        due("22 without risk", new SandBank().night(9999, 2000, 0), 0);
        for (int z : new int[] {-1, 10000, LOW, HIGH}) {
            refused(x, "22 number " + z, () -> x.night(z, 1, 0), BAD);
        }
        for (int t : new int[] {-1, 2001, LOW, HIGH}) {
            refused(x, "22 minutes " + t, () -> x.night(0, t, 0), BAD);
        }
        for (int what : new int[] {-1, 2, LOW, HIGH}) {
            refused(x, "22 what " + what, () -> x.night(0, 1, what), BAD);
        }
    }

    /** By 0 DRAW(1, 0) is 487; those of eight glasses are worked out here. */
    private static void nightOfSeveral() {
        SandBank x = Checks.laid(FIRST + "g0,2,3,5,50,1;r2,0;");
        due("22 one of two", x.night(0, 1, 1), 1);
        due("22 one of two: lost", x.night(0, 1, 0), 20);
        checks.dueRow("23 the other goes on", Checks.nightHas(x, 0, 1), 0, 0, 45, 6, 0, 0);
        SandBank eight = Checks.laid(FILLED.repeat(8) + "r40,0;");
        for (int z : new int[] {0, 1, 2, 77, 5000, 9998, 9999}) {
            for (int t : new int[] {0, 1, 2, 3, 7, 20, 40, 2000}) {
                int broken = brokenOfEight(z, t, 40);
                due("22 broken by " + z + " in " + t, eight.night(z, t, 1), broken);
                due("22 lost by " + z + " in " + t, eight.night(z, t, 0), 1998 * broken);
            }
        }
    }

    private static int brokenOfEight(int z, int t, int below) {
        int gone = 0;
        for (int i = 0; i < 8; i++) {
            boolean whole = true;
            for (int k = 0; k < t && whole; k++) {
                long rest = (7919L * z + 6151L * i + 3571L * k + 1) % 65521;
                whole = rest * rest % 65521 % 1000 >= below;
            }
            gone += whole ? 0 : 1;
        }
        return gone;
    }

    private static void nightHas() {
        SandBank x = Checks.laid(FIRST + "r1,1;");
        checks.dueRow("23 no minute", Checks.nightHas(x, 0, 0), 20, 0, 0, 0, 0, 0);
        checks.dueRow("23 a mouse, then it falls", Checks.nightHas(x, 0, 1), 15, 2, 0, 0, 0, 0);
        checks.dueRow("23 nothing more in the second", Checks.nightHas(x, 0, 2), 13, 4, 0, 0, 0, 0);
        checks.dueRow("23 undisturbed", Checks.nightHas(x, 1, 1), 18, 2, 0, 0, 0, 0);
        checks.dueRow("23 the shelf stays", Checks.has(x), 20, 0, 0, 0, 0, 0);
        checks.dueRow("23 broken", Checks.nightHas(Checks.laid(FIRST + "r2,0;"), 0, 1),
                0, 0, 0, 0, 0, 0);
        checks.dueRow("23 of the bulb that a clerk turned up",
                Checks.nightHas(Checks.laid("g0,0,1,2,20,9;c0,1,0;r0,2;"), 0, 1),
                22, 4, 0, 0, 0, 0);
        checks.dueRow("23 half", Checks.nightHas(Checks.laid("g2,0,1,2,20,9;p0,5;r0,2;"), 0, 1),
                8, 11, 0, 0, 0, 7);
        SandBank damp = Checks.laid("g1,0,1,2,20,9;r0,2;");
        damp.minutes(2);
        checks.dueRow("23 in a minute in which damp sand sticks", Checks.nightHas(damp, 0, 1),
                13, 13, 0, 0, 0, 0);
        for (int z : new int[] {-1, 10000, LOW, HIGH}) {
            refused(x, "23 number " + z, () -> x.nightHas(z, 1, 0), BAD);
        }
        for (int t : new int[] {-1, 2001, LOW, HIGH}) {
            refused(x, "23 minutes " + t, () -> x.nightHas(0, t, 0), BAD);
        }
        for (int h : new int[] {-1, 6, LOW, HIGH}) {
            refused(x, "23 hand " + h, () -> x.nightHas(0, 1, h), BAD);
        }
    }

    private static void keepAndBack() {
        SandBank x = Checks.laid("g0,0,1,2,20,0;g1,2,3,1,9,9;");
        x.minutes(3);
        x.turn(1);
        x.counted(0, 1, 19);
        String first = Checks.state(x).replaceFirst(", 1, 1, 27, 0]", ", 0, 1, 27, 0]");
        due("24 keep", x.keep(), 1);
        x.minutes(2);
        x.pour(0, 1, 1, 0, 3);
        x.counted(1, 2, 3);
        String second = Checks.state(x).replaceFirst(", 1, 2, 27, 1]", ", 0, 2, 27, 1]");
        due("24 keep a second", x.keep(), 2);
        refused(x, "24 keep a third", x::keep, FULL);
        x.turn(0);
        x.minutes(50);
        x.counted(0, 9, 1);
        due("25 back", x.back(), 1);
        due("25 as kept second", Checks.state(x).equals(second) ? 1 : 0, 1);
        due("25 back to the first", x.back(), 0);
        due("25 as kept first", Checks.state(x).equals(first) ? 1 : 0, 1);
        refused(x, "25 nothing is left", x::back, NO);
        due("24 keep anew", x.keep(), 1);
        x.wipe();
        x.turn(0);
        due("25 back anew", x.back(), 0);
        due("25 the text is not kept", x.count(6), 0);
        due("25 turned back", x.glass(0, 2), 0);
        x.keep();
        Checks.write(x, FIRST);
        x.lay();
        refused(x, "25 nothing kept behind lay", x::back, NO);
    }

    private static void count() {
        SandBank x = Checks.laid(FIRST.repeat(3) + "y0,1;y1,2;y0,1;c0,9,9;c2,5,5;p0,1;r1,2;");
        checks.dueRow("26 count", Checks.counts(x), 3, 2, 3, 0, 0, 0, 81, 0);
        x.minutes(7);
        x.turn(0);
        x.turn(1);
        x.counted(0, 1, 1);
        x.counted(0, 1, 1);
        x.counted(0, 1, 1);
        x.keep();
        x.write(4, 0L);
        checks.dueRow("26 count then", Checks.counts(x), 3, 2, 3, 7, 2, 3, 85, 1);
        for (int what : new int[] {-1, 8, LOW, HIGH}) {
            refused(x, "26 what " + what, () -> x.count(what), BAD);
        }
    }
}
