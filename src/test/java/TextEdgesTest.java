/** The edges of promises 1 to 5: a new object, and the text, written, read and laid. */
public final class TextEdgesTest {
    private static final int NO = Edges.NO, BAD = Edges.BAD, FULL = Edges.FULL, NONE = Edges.NONE;
    /** As laid at first: 14 bytes. */
    private static final String FIRST = "g0,0,1,2,20,0;";
    private static final String TWO = FIRST + FIRST;
    private static final String EIGHT = FIRST.repeat(8);
    /** 399 and 400 bytes without a fault. */
    private static final String NEARLY_FULL = FIRST + "r1,1;".repeat(77);
    private static final String FULL_TEXT = "g0,0,1,2,20,00;" + "r1,1;".repeat(77);

    private static final Edges edges = new Edges();

    public static void main(String[] args) {
        edges.run(TextEdgesTest.class, 1, 5);
    }

    /** A bank that has something of all that a lay would end. */
    private static Bank busy() {
        Bank bank = Bank.laid("g1,0,1,3,30,1;" + FIRST + "y0,1;c0,2,0;");
        bank.minutes(4);
        bank.turn(0);
        bank.pour(1, 0, 0, 1, 2);
        bank.counted(0, 1, 2);
        bank.keep();
        bank.turn(1);
        bank.wipe();
        return bank;
    }

    /** The fault of a text; one that has a fault can't be laid, and nothing changes then. */
    private static void fault(String text, int want) {
        Bank bank = Bank.written(text);
        edges.due("fault of " + text, bank.fault(), want);
        if (want != NONE) {
            edges.refused("lay of " + text, bank, Bank::lay, NO);
        }
    }

    /** An item behind two glasses, which is so, or is not. */
    private static void item(String item, boolean so) {
        fault(TWO + item, so ? NONE : 28);
    }

    private static String item(char letter, String... numbers) {
        return letter + String.join(",", numbers) + ";";
    }

    // ---- 1 a new object

    static void promise01NewObjectIsLaidAsToldAtFirst() {
        Bank bank = new Bank();
        edges.dueRow("count", Look.counts(bank), 1, 0, 0, 0, 0, 0, 0, 0);
        edges.dueRow("glass 0", Look.glass(bank, 0), 20, 0, 0, 0, 2, 0);
        edges.dueRow("has", Look.has(bank), 20, 0, 0, 0, 0, 0);
        edges.due("glass 1", bank.glass(1, 0), BAD);
        edges.due("none breaks of what draws 0", bank.night(1415, 1, 1), 0);
        edges.due("no mouse comes to what draws 0", bank.night(1415, 1, 0), 0);
        edges.due("the longest night without risks", bank.night(9999, 2000, 0), 0);
        Bank told = Bank.laid(FIRST);
        told.wipe();
        edges.same("laid by the text", Look.all(told), Look.all(new Bank()));
    }

    static void promise01NewObjectHasAnEmptyText() {
        Bank bank = new Bank();
        edges.due("fault", bank.fault(), NONE);
        edges.refused("lay", bank, Bank::lay, NO);
        edges.due("wipe", bank.wipe(), 0);
    }

    static void promise01NewObjectHasNothingUndoneCountedKept() {
        Bank bank = new Bank();
        edges.refused("undo", bank, Bank::undo, NO);
        edges.refused("back", bank, Bank::back, NO);
        edges.dueRow("stolen", Look.stolen(bank, 0), 0, NONE, NONE, 0);
        edges.refused("late without a clerk", bank, b -> b.late(0, 0, 0, 0), BAD);
    }

    static void promise01NewObjectAnswersUpToThe512thCall() {
        Bank bank = new Bank();
        for (int k = 1; k < Bank.PROMISED_CALLS; k++) {
            edges.due("turn", bank.turn(0), 1);
        }
        edges.due("the 512th call", bank.glass(0, 2), 1);
    }

    // ---- 2 write

    static void promise02WriteTakesOneToEightBytes() {
        edges.range("write n", new Bank(), (b, n) -> b.write(n, 0x6730L), 1, 1, 8, 8);
        Bank behind = Bank.written("g0,");
        edges.range("write n behind 3", behind, (b, n) -> b.write(n, 0x6730L), 1, 4, 8, 11);
    }

    static void promise02WriteTakesTheHighestByteFirst() {
        Bank bank = new Bank();
        bank.write(8, 0x67302c302c312c32L);
        bank.write(6, 0x2c32302c303bL);
        edges.due("lay", bank.lay(), 1);
        edges.dueRow("glass", Look.glass(bank, 0), 20, 0, 0, 0, 2, 0);
    }

    static void promise02WriteTakesNoMoreThanItsBytes() {
        Bank bank = new Bank();
        for (char sign : FIRST.toCharArray()) {
            bank.write(1, 0x8182838485868700L + sign);
        }
        bank.write(5, 0xffffff72312c323bL);
        edges.due("fault", bank.fault(), NONE);
        edges.due("length", bank.count(6), 19);
        edges.due("lay", bank.lay(), 1);
        edges.dueRow("glass", Look.glass(bank, 0), 20, 0, 0, 0, 2, 0);
    }

    static void promise02WriteUpTo400Bytes() {
        Bank eightLeft = Bank.written("r1,1;".repeat(78) + "r1");
        edges.due("length", eightLeft.count(6), 392);
        edges.due("8 of 8 left", eightLeft.write(8, 0x2c313b72312c313bL), 400);
        edges.due("read to the end", eightLeft.fault(), NONE);
        Bank sevenLeft = Bank.written("r1,1;".repeat(78) + "r1,");
        edges.refused("8 of 7 left", sevenLeft, b -> b.write(8, 0L), FULL);
        edges.due("7 of 7 left", sevenLeft.write(7, 0x313b72312c313bL), 400);
        edges.due("read to the end again", sevenLeft.fault(), NONE);
        Bank oneLeft = Bank.written(NEARLY_FULL);
        edges.refused("2 of 1 left", oneLeft, b -> b.write(2, 0x3b3bL), FULL);
        edges.due("1 of 1 left", oneLeft.write(1, 'x'), 400);
        edges.due("the last byte", oneLeft.fault(), 399);
    }

    static void promise02WriteIsRefusedWhenFull() {
        Bank bank = Bank.written(FULL_TEXT);
        edges.due("length", bank.count(6), 400);
        for (int k = 1; k <= 8; k++) {
            int n = k;
            edges.refused("write " + n, bank, b -> b.write(n, -1L), FULL);
        }
        edges.due("lay of 400 bytes", bank.lay(), 1);
    }

    static void promise02WriteIsBadAheadOfFull() {
        Bank bank = Bank.written(FULL_TEXT);
        edges.refused("write 0", bank, b -> b.write(0, 0L), BAD);
        edges.refused("write 9", bank, b -> b.write(9, 0L), BAD);
    }

    static void promise02WriteLeavesTheShelf() {
        Bank bank = busy();
        String before = Look.all(bank);
        edges.due("write", bank.write(4, 0x67302c30L), 4);
        edges.due("wipe", bank.wipe(), 4);
        edges.same("behind write and wipe", Look.all(bank), before);
    }

    // ---- 3 wipe

    static void promise03WipeTellsHowLongItWas() {
        edges.due("of none", new Bank().wipe(), 0);
        edges.due("of one byte", Bank.written("g").wipe(), 1);
        edges.due("of 399", Bank.written(NEARLY_FULL).wipe(), 399);
        Bank full = Bank.written(FULL_TEXT);
        edges.due("of 400", full.wipe(), 400);
        edges.due("again", full.wipe(), 0);
        edges.due("length", full.count(6), 0);
    }

    static void promise03WipeMakesRoomAgain() {
        Bank bank = Bank.written(FULL_TEXT);
        bank.wipe();
        edges.due("write", bank.write(8, 0x67302c302c312c32L), 8);
        bank.wipe();
        bank.tell(FULL_TEXT);
        edges.due("full again", bank.count(6), 400);
        edges.due("lay", bank.lay(), 1);
    }

    static void promise03WipeLeavesNothingBehindTheText() {
        Bank bank = Bank.written(FIRST);
        bank.wipe();
        bank.tell("g0,0,1,2,20,0");
        edges.due("what was wiped ends no item", bank.fault(), 0);
        bank.tell(";");
        edges.due("ended", bank.fault(), NONE);
    }

    static void promise03WipeLeavesWhatIsLaid() {
        Bank bank = Bank.laid("g2,3,4,5,7,6;p0,1;");
        bank.minutes(1);
        edges.due("wipe", bank.wipe(), 18);
        edges.dueRow("glass", Look.glass(bank, 0), 2, 11, 0, 2, 5, 1);
        edges.due("minute", bank.count(3), 1);
    }

    // ---- 4 fault: the form of items

    static void promise04FaultOfAnEmptyTextIsNone() {
        fault("", NONE);
    }

    static void promise04FaultOfBytesThatBeginNoItem() {
        for (int sign = 0; sign < 256; sign++) {
            fault(TWO + (char) sign + "0,1;", "ypr".indexOf(sign) >= 0 ? NONE : 28);
            fault(TWO + (char) sign + "0,1,1;", sign == 'c' ? NONE : 28);
            fault(TWO + (char) sign + "0,0,1,2,20,0;", sign == 'g' ? NONE : 28);
        }
    }

    static void promise04FaultOfBytesThatAreNoFigure() {
        for (int sign = 0; sign < 256; sign++) {
            boolean figure = sign >= '0' && sign <= '9';
            item("r0," + (char) sign + ";", figure);
            item("r" + (char) sign + ",0;", figure);
        }
    }

    static void promise04FaultOfBytesThatPartNoNumbers() {
        for (int sign = 0; sign < 256; sign++) {
            item("r0" + (char) sign + "1;", sign == ',');
            item("c0,1" + (char) sign + "1;", sign == ',');
        }
    }

    static void promise04FaultOfBytesThatEndNoItem() {
        for (int sign = 0; sign < 256; sign++) {
            item("r0,1" + (char) sign, sign == ';');
            item("r0,1" + (char) sign + "r0,1;", sign == ';');
        }
    }

    static void promise04FaultOfNumbersOfNoneOrFourFigures() {
        String[] items = {"g0,0,1,2,5,0", "y0,1", "c0,1,1", "p0,1", "r1,1"};
        for (String each : items) {
            String[] numbers = each.substring(1).split(",");
            for (int k = 0; k < numbers.length; k++) {
                for (int figures = 0; figures <= 5; figures++) {
                    String[] tried = numbers.clone();
                    tried[k] = figures == 0 ? "" : "0".repeat(figures - 1) + numbers[k];
                    item(item(each.charAt(0), tried), figures >= 1 && figures <= 3);
                }
            }
        }
    }

    static void promise04FaultOfOneNumberTooFewOrTooMany() {
        String[] items = {"g0,0,1,2,5,0", "y0,1", "c0,1,1", "p0,1", "r1,1"};
        for (String each : items) {
            item(each + ";", true);
            item(each + ",0;", false);
            item(each + ",;", false);
            item(each.substring(0, each.lastIndexOf(',')) + ";", false);
            item(each.charAt(0) + ";", false);
            item(each.substring(0, 1), false);
        }
    }

    static void promise04FaultOfALastItemThatDoesNotEnd() {
        for (int n = 1; n < FIRST.length(); n++) {
            fault(FIRST.substring(0, n), 0);
            fault(FIRST + FIRST.substring(0, n), 14);
        }
        fault(TWO, NONE);
        fault(TWO + ";", 28);
    }

    // ---- 4 fault: the numbers of items

    /** Number k of an item is told from low to high; one less and one more are not. */
    private static void told(String form, int low, int high) {
        item(form.replace("#", "" + low), true);
        item(form.replace("#", "" + high), true);
        item(form.replace("#", "" + (high + 1)), false);
        if (low > 0) {
            item(form.replace("#", "" + (low - 1)), false);
        }
        item(form.replace("#", "-1"), false);
    }

    static void promise04FaultOfAGlassOfNoKind() {
        told("g#,0,1,2,20,0;", 0, 3);
        item("g999,0,1,2,20,0;", false);
    }

    static void promise04FaultOfAGlassOfNoHand() {
        told("g0,#,1,2,20,0;", 0, 5);
        told("g0,0,#,2,20,0;", 0, 5);
    }

    static void promise04FaultOfAGlassOfNoNeck() {
        told("g0,0,1,#,20,0;", 1, 60);
        item("g0,0,1,000,20,0;", false);
    }

    static void promise04FaultOfAGlassOfTooManyGrains() {
        told("g0,0,1,2,#,0;", 0, 999);
        told("g0,0,1,2,20,#;", 0, 999);
        told("g0,0,1,2,999,#;", 0, 999);
    }

    static void promise04FaultOfATieToItself() {
        item("y0,0;", false);
        item("y1,1;", false);
        item("y0,1;", true);
        item("y1,0;", true);
        item("y0,1;y0,1;y1,0;", true);
        item("y00,000;", false);
    }

    static void promise04FaultOfATieThatIsNotToldAhead() {
        item("y0,2;", false);
        item("y2,0;", false);
        item("y2,1;" + FIRST, false);
        item("y1,2;" + FIRST, false);
        item(FIRST + "y1,2;", true);
        item(FIRST + "y2,1;", true);
        fault("y0,1;" + TWO, 0);
        fault(EIGHT + "y0,7;y7,0;", NONE);
        fault(EIGHT + "y0,8;", 112);
        fault(EIGHT + "y8,0;", 112);
    }

    static void promise04FaultOfAClerkOfAGlassNotToldAhead() {
        told("c#,1,0;", 0, 1);
        item("c2,1,0;" + FIRST, false);
        item(FIRST + "c2,1,0;", true);
        fault("c0,1,0;" + TWO, 0);
        fault(EIGHT + "c7,1,0;", NONE);
        fault(EIGHT + "c8,1,0;", 112);
    }

    static void promise04FaultOfAClerkWithNoMinutes() {
        told("c0,#,0;", 1, 99);
        told("c0,1,#;", 0, 99);
    }

    static void promise04FaultOfAPartnerInAGlassNotToldAhead() {
        told("p#,0;", 0, 1);
        item("p2,0;" + FIRST, false);
        item(FIRST + "p2,0;", true);
        fault("p0,0;" + TWO, 0);
        fault(EIGHT + "p7,0;", NONE);
        fault(EIGHT + "p8,0;", 112);
    }

    static void promise04FaultOfAPartnerWhoIsNoHand() {
        told("p0,#;", 0, 5);
    }

    static void promise04FaultOfRisksAbove99() {
        told("r#,0;", 0, 99);
        told("r0,#;", 0, 99);
        told("r99,#;", 0, 99);
        fault("r99,99;" + FIRST, NONE);
    }

    static void promise04FaultOfANinthGlass() {
        fault(FIRST.repeat(7), NONE);
        fault(EIGHT, NONE);
        fault(EIGHT + FIRST, 112);
        fault(EIGHT + "y0,1;c0,1,1;p0,1;r1,1;" + FIRST, 134);
        edges.due("lay of seven", Bank.written(FIRST.repeat(7)).lay(), 7);
        edges.due("lay of eight", Bank.written(EIGHT).lay(), 8);
    }

    static void promise04FaultOfANinthTie() {
        item("y0,1;".repeat(7), true);
        item("y0,1;".repeat(8), true);
        fault(TWO + "y0,1;".repeat(9), 68);
        fault(TWO + "y1,0;".repeat(8) + "c0,1,1;y0,1;", 75);
    }

    static void promise04FaultOfANinthClerk() {
        item("c0,5,5;".repeat(7), true);
        item("c0,5,5;".repeat(8), true);
        fault(TWO + "c0,5,5;".repeat(9), 84);
        fault(TWO + "c1,5,5;".repeat(8) + "y0,1;c0,5,5;", 89);
    }

    static void promise04FaultOfNoneOfEightOfEach() {
        fault(EIGHT + "y0,1;".repeat(8) + "c0,5,5;".repeat(8) + "p0,1;".repeat(9)
                + "r1,1;".repeat(9), NONE);
    }

    static void promise04FaultOfNoneOfManyPartnersAndRisks() {
        item("p0,1;".repeat(9), true);
        item("r1,1;".repeat(9), true);
        fault("r1,1;".repeat(80), NONE);
    }

    // ---- 4 fault: its place

    static void promise04FaultIsThePlaceOfTheFirstByteOfTheItem() {
        fault("g0,0,1,2,20,x;", 0);
        fault(FIRST + "g0,0,1,2,20,x;", 14);
        fault(FIRST + "p0,1;g0,0,1,61,20,0;", 19);
        fault("x", 0);
        fault(FIRST + "r1,1;".repeat(77) + "x", 399);
        fault(FULL_TEXT, NONE);
        fault("r1,1;".repeat(79) + "r1,1,", 395);
    }

    static void promise04FaultIsTheFirstOfSeveral() {
        fault(FIRST + "p0,6;" + FIRST + "x", 14);
        fault("x" + FIRST + "p0,6;", 0);
        fault(FIRST + "y0,1;" + FIRST + "y0,0;", 14);
        fault(EIGHT + FIRST + FIRST, 112);
    }

    static void promise04FaultChangesNothing() {
        for (String text : new String[] {"", FIRST, "g3,5,5,60,999,999;p0,0;r99,99;y", "x"}) {
            Bank bank = busy().tell(text);
            Bank read = bank.twin();
            read.fault();
            edges.same("behind fault of " + text, Look.all(read), Look.all(bank));
        }
    }

    // ---- 5 lay

    static void promise05LayIsRefusedWithoutAGlass() {
        edges.refused("no text", busy(), Bank::lay, NO);
        Bank bank = busy().tell("r1,1;r2,2;");
        edges.due("no fault", bank.fault(), NONE);
        edges.refused("no glass", bank, Bank::lay, NO);
        bank.tell(FIRST);
        edges.due("one glass", bank.lay(), 1);
    }

    static void promise05LayIsRefusedWithAFault() {
        for (String text : new String[] {"x", FIRST + "x", EIGHT + FIRST, FIRST + "g0,0,1,2,20,0",
            FIRST + "r99,100;", "g3,5,5,60,999,999;y0,0;"}) {
            edges.refused("lay of " + text, busy().tell(text), Bank::lay, NO);
        }
    }

    static void promise05LayTellsHowManyGlasses() {
        for (int n = 1; n <= 8; n++) {
            Bank bank = Bank.written(FIRST.repeat(n));
            edges.due("lay of " + n, bank.lay(), n);
            edges.due("count of " + n, bank.count(0), n);
            edges.due("the last of " + n, bank.glass(n - 1, 0), 20);
            edges.due("the next of " + n, bank.glass(n, 0), BAD);
        }
    }

    static void promise05LayBeginsWithNothing() {
        Bank bank = busy();
        edges.dueRow("count ahead", Look.counts(bank), 2, 1, 1, 4, 3, 1, 0, 1);
        bank.tell(FIRST);
        edges.due("lay", bank.lay(), 1);
        edges.dueRow("count", Look.counts(bank), 1, 0, 0, 0, 0, 0, 14, 0);
        edges.refused("undo", bank, Bank::undo, NO);
        edges.refused("back", bank, Bank::back, NO);
        edges.dueRow("stolen", Look.stolen(bank, 0), 0, NONE, NONE, 0);
        bank.wipe();
        edges.same("as a new object", Look.all(bank), Look.all(new Bank()));
    }

    static void promise05LayAgainLaysTheSame() {
        Bank bank = Bank.laid(FIRST + "g2,1,2,3,40,50;y0,1;c1,2,3;p1,4;r5,6;");
        String once = Look.all(bank);
        bank.turn(0);
        bank.minutes(7);
        bank.keep();
        bank.counted(1, 2, 3);
        edges.due("lay again", bank.lay(), 2);
        edges.same("laid again", Look.all(bank), once);
    }

    static void promise05LayTakesEveryNumberAsTold() {
        Bank bank = Bank.laid("g0,0,5,1,0,999;g1,5,0,60,999,0;g2,1,2,59,1,998;g3,3,4,2,998,1;");
        edges.dueRow("glass 0", Look.glass(bank, 0), 0, 999, 0, 0, 1, 0);
        edges.dueRow("glass 1", Look.glass(bank, 1), 999, 0, 0, 1, 60, 5);
        edges.dueRow("glass 2", Look.glass(bank, 2), 1, 998, 0, 2, 59, 1);
        edges.dueRow("glass 3", Look.glass(bank, 3), 998, 1, 0, 3, 2, 3);
        edges.dueRow("has", Look.has(bank), 0, 1, 998, 998, 1, 1998);
        Bank zeros = Bank.laid("g002,001,005,060,009,090;");
        edges.dueRow("with zeros ahead", Look.glass(zeros, 0), 9, 90, 0, 2, 60, 1);
    }

    static void promise05LayTakesTheLastPartnerOfEach() {
        Bank bank = Bank.laid("g2,3,1,2,20,0;g2,4,1,2,20,0;g2,2,1,2,20,0;p0,1;p1,0;p0,5;");
        edges.due("the last of glass 0", bank.glass(0, 5), 5);
        edges.due("the only one of glass 1", bank.glass(1, 5), 0);
        edges.due("A without", bank.glass(2, 5), 2);
        edges.due("A told again", Bank.laid("g2,3,1,2,20,0;p0,1;p0,3;").glass(0, 5), 3);
        edges.due("first or last hand", Bank.laid(FIRST + "p0,5;p0,0;").glass(0, 5), 0);
    }

    static void promise05LayTakesTheLastRisks() {
        edges.due("without", Bank.laid(FIRST).night(0, 1, 0), 0);
        edges.due("0", Bank.laid(FIRST + "r0,0;").night(0, 1, 0), 0);
        edges.due("the last one", Bank.laid(FIRST + "r99,99;r0,0;").night(0, 1, 0), 0);
        edges.due("the last one breaks", Bank.laid(FIRST + "r0,99;r2,0;").night(0, 1, 0), 20);
        edges.due("both numbers of it", Bank.laid(FIRST + "r2,0;r0,2;").night(0, 1, 1), 0);
        edges.due("ahead of the glass", Bank.laid("r2,0;" + FIRST).night(0, 1, 1), 1);
    }

    static void promise05LayForgetsWhatWasToldAhead() {
        Bank bank = Bank.laid(TWO + "y0,1;c0,1,0;p0,4;r99,99;");
        bank.wipe();
        bank.tell(TWO);
        edges.due("lay", bank.lay(), 2);
        edges.due("no tie", bank.turn(0), 1);
        edges.due("no clerk", bank.count(1), 0);
        edges.due("no partner", bank.glass(0, 5), 0);
        edges.due("no risk", bank.night(0, 99, 0), 0);
        bank.lay();
        edges.same("as another bank", Look.all(bank), Look.all(Bank.laid(TWO)));
    }

    static void promise05LayLeavesTheText() {
        Bank bank = Bank.laid(FIRST);
        edges.due("length", bank.count(6), 14);
        bank.tell("c0,1,0;");
        edges.due("not laid yet", bank.count(1), 0);
        edges.due("lay what came behind", bank.lay(), 1);
        edges.due("laid", bank.count(1), 1);
    }

    static void promise05LayOfTheMostThatCanBeTold() {
        String text = "g0,0,1,2,20,0;".repeat(8) + "y0,1;".repeat(8) + "c7,99,99;".repeat(8)
                + "p7,5;".repeat(8) + "r099,099;".repeat(4) + "r1,1;".repeat(20);
        edges.due("its bytes", text.length(), 400);
        Bank bank = Bank.laid(text);
        edges.dueRow("count", Look.counts(bank), 8, 8, 8, 0, 0, 0, 400, 0);
        edges.due("the last partner", bank.glass(7, 5), 5);
        edges.due("the last clerk", bank.late(7, 0, 0, 0), 100000);
    }
}
