/** The bounds that promises 1 to 8 name: THE TEXT, PLATES, GEARS, WORM and PITCH. */
public final class OutfitBoundsTest {
    private static final int NONE = DividingHead.NONE;
    private static final int FAR = Integer.MAX_VALUE;
    private static final int LOW = Integer.MIN_VALUE;

    private OutfitBoundsTest() {
    }

    public static void main(String[] args) {
        objectsAreApart();
        signsUpTo80();
        signsBehindEnd();
        signsHighestByteFirst();
        signsOfAllBytes();
        endOfEmptyText();
        endBounds();
        endKeepsTheFirstSigns();
        endTakesTheRestAway();
        platesSecondDigitCantBe();
        platesSecondDigitDoesNotRise();
        platesSeventhComma();
        platesFourthSemicolon();
        platesEndTooEarly();
        platesOtherSigns();
        platesTellTheFirstWrongSign();
        platesMachineAsAtFirst();
        platesTextOf80();
        gearsTwoOrThreeDigits();
        gearsLastDigitCantBe();
        gearsThirteenthComma();
        gearsEndTooEarly();
        gearsOtherSigns();
        gearsEmpty();
        gearsMachineAsAtFirst();
        gearsOfMostSigns();
        setsTellsWhatItWas();
        setsItIsSo();
        setsOthers();
        setsMachineAsAtFirst();
        circleBounds();
        circleRowStays();
        gearBounds();
        gearOfNone();
        Check.finish();
    }

    private static void due(String call, long got, long want) {
        Check.due(call, got, want);
    }

    private static void dueEnd(String call, boolean got, boolean want) {
        Check.due(call, got ? 1 : 0, want ? 1 : 0);
    }

    private static void duePlates(String text, int want) {
        DividingHead x = new DividingHead();
        due("4: plates() of " + text, Check.plates(x, text), want);
        due("4: THE TEXT is empty behind " + text, x.count(9), 0);
        due("4: CIRCLES behind " + text, x.count(2), want < 0 ? 18 : want);
        due("4: to undo behind " + text, x.count(7), want < 0 ? 0 : 1);
    }

    private static void dueGears(String text, int want) {
        DividingHead x = new DividingHead();
        due("5: gears() of " + text, Check.gears(x, text), want);
        due("5: THE TEXT is empty behind " + text, x.count(9), 0);
        due("5: GEARS behind " + text, x.count(3), want < 0 ? 12 : want);
        due("5: to undo behind " + text, x.count(7), want < 0 ? 0 : 1);
    }

    // ---- 1

    private static void objectsAreApart() {
        DividingHead x = new DividingHead();
        Twin.busy(x);
        DividingHead y = new DividingHead();
        due("1: another object is as at first: CIRCLES", y.count(2), 18);
        due("1: its MARKS", y.count(6), 0);
        due("1: its TEXT", y.count(9), 0);
        due("1: nothing kept", y.again(1) ? 1 : 0, 0);
    }

    // ---- 2, 3

    private static void signsUpTo80() {
        DividingHead x = new DividingHead();
        for (int i = 1; i <= 20; i++) {
            due("2: how many it has", x.sign(0x63636363), 4 * i);
        }
        due("2: 84 would be more than 80", x.sign(0x63636363), NONE);
        due("2: refused, 80 stay", x.count(9), 80);
        x.cuts();
        x.wipes();
        due("2: refused, the 80 are as they were", x.day(), 1);
    }

    private static void signsBehindEnd() {
        for (int n = 75; n <= 80; n++) {
            DividingHead x = new DividingHead();
            for (int i = 0; i < 20; i++) {
                x.sign(0);
            }
            x.end(n);
            boolean fits = n + 4 <= 80;
            due("2: four behind " + n, x.sign(0), fits ? n + 4 : NONE);
            due("2: so it has, behind " + n, x.count(9), fits ? n + 4 : n);
            due("2: four more behind " + n, x.sign(0), NONE);
        }
    }

    private static void signsHighestByteFirst() {
        DividingHead x = new DividingHead();
        due("2: c c 0 x", x.sign(0x63773078), 4);
        due("2: the third is wrong", x.day(), -3);
        x.sign(0x30777777);
        due("2: the first is wrong", x.day(), -1);
        x.sign(0x77777730);
        due("2: the fourth is wrong", x.day(), -4);
        x.sign(0x31302C31);
        x.sign(0x31000000);
        x.end(5);
        due("2: 10,11 over two calls", x.plates(), 2);
        due("2: 10", x.circle(0), 10);
        due("2: 11", x.circle(1), 11);
    }

    private static void signsOfAllBytes() {
        for (int v : new int[] {0, -1, LOW, FAR, 0x80808080, 0xFF000000}) {
            DividingHead x = new DividingHead();
            due("2: any int is four signs: " + v, x.sign(v), 4);
            due("2: none of these is an ACT: " + v, x.day(), -1);
            x.sign(v);
            due("2: nor a number: " + v, x.gears(), -1);
            x.sign(v);
            due("2: nor a number: " + v, x.plates(), -1);
        }
        // bytes that differ from digits by 128 or 256 alone
        DividingHead x = new DividingHead();
        x.sign(0xB1B02CB1);
        due("2: bytes above 127 are no digits", x.plates(), -1);
        x.sign(0x31B00000);
        due("2: nor the second one", x.plates(), -2);
    }

    private static void endOfEmptyText() {
        DividingHead x = new DividingHead();
        dueEnd("3: 0 of none", x.end(0), true);
        dueEnd("3: 1 of none", x.end(1), false);
        dueEnd("3: below 0", x.end(-1), false);
    }

    private static void endBounds() {
        DividingHead x = new DividingHead();
        x.sign(0x63776377);
        dueEnd("3: 5 of 4", x.end(5), false);
        dueEnd("3: far", x.end(FAR), false);
        dueEnd("3: below 0", x.end(-1), false);
        dueEnd("3: far below 0", x.end(LOW), false);
        due("3: refused, four stay", x.count(9), 4);
        dueEnd("3: 4 of 4", x.end(4), true);
        due("3: four stay", x.count(9), 4);
        dueEnd("3: 3 of 4", x.end(3), true);
        due("3: three", x.count(9), 3);
        dueEnd("3: the fourth is gone", x.end(4), false);
        dueEnd("3: 0 of 3", x.end(0), true);
        due("3: none", x.count(9), 0);
        dueEnd("3: nothing left", x.end(1), false);
    }

    private static void endKeepsTheFirstSigns() {
        DividingHead x = new DividingHead();
        x.sign(0x63757830);
        x.end(1);
        due("3: c alone", x.day(), 1);
        x.sign(0x63757830);
        x.end(2);
        x.sign(0x30377777);
        due("3: cu, then 07ww", x.count(9), 6);
        due("3: c stands already", x.day(), 0);
        x.wipes();
        x.sign(0x63757830);
        x.end(2);
        x.sign(0x30377777);
        due("3: cu, then 07ww", x.day(), 4);
        due("3: the CIRCLE of these signs", x.count(4), 7);
    }

    private static void endTakesTheRestAway() {
        DividingHead x = new DividingHead();
        Check.write(x, "10,11000");
        x.end(4);
        due("3: 10,1 alone", x.plates(), -5);
        Check.write(x, "20,1000;");
        x.end(5);
        due("3: 20,10 alone", x.gears(), -5);
        Check.write(x, "u07t0000");
        x.end(2);
        due("3: u0 alone", x.day(), -3);
        Check.write(x, "g0102+cc");
        x.end(5);
        due("3: g0102 alone", x.day(), -6);
    }

    // ---- 4

    private static void platesSecondDigitCantBe() {
        duePlates("09", -2);
        duePlates("10", 1);
        duePlates("70", 1);
        duePlates("71", -2);
        duePlates("00", -2);
        duePlates("99", -2);
        duePlates("10,09", -5);
        duePlates("10,71", -5);
        duePlates("10;71", -5);
        duePlates("10;09", -5);
        duePlates("10,70", 2);
    }

    private static void platesSecondDigitDoesNotRise() {
        duePlates("30,29", -5);
        duePlates("30,30", -5);
        duePlates("30,31", 2);
        duePlates("30;30", 2);
        duePlates("30;29", 2);
        duePlates("70;10", 2);
        duePlates("30,31,31", -8);
        duePlates("30,40,31", -8);
        duePlates("30;20,20", -8);
    }

    private static void platesSeventhComma() {
        duePlates("20,21,22,23,24", 5);
        duePlates("20,21,22,23,24,25", 6);
        duePlates("20,21,22,23,24,25,", -18);
        duePlates("20,21,22,23,24,25,26", -18);
        duePlates("20,21,22,23,24,25;26", 7);
        duePlates("20;21,22,23,24,25,26,27", -21);
        duePlates("20;21;22,23,24,25,26,27", 8);
        duePlates("20;21;22,23,24,25,26,27,", -24);
    }

    private static void platesFourthSemicolon() {
        duePlates("20;21", 2);
        duePlates("20;21;22", 3);
        duePlates("20;21;22;", -9);
        duePlates("20;21;22;23", -9);
        duePlates("20,21;22,23;24,25;26", -18);
        duePlates("10,11,12,13,14,15;10,11,12,13,14,15;10,11,12,13,14,15", 18);
        duePlates("10,11,12,13,14,15;10,11,12,13,14,15;10,11,12,13,14,15;", -54);
        duePlates("10,11,12,13,14,15;10,11,12,13,14,15;10,11,12,13,14,15,", -54);
    }

    private static void platesEndTooEarly() {
        duePlates("", -1);
        duePlates("1", -2);
        duePlates("9", -2);
        duePlates("10,", -4);
        duePlates("10,1", -5);
        duePlates("10;", -4);
        duePlates("10;1", -5);
        duePlates("10;11;", -7);
    }

    private static void platesOtherSigns() {
        duePlates("x", -1);
        duePlates(",", -1);
        duePlates(";10", -1);
        duePlates(" 10", -1);
        duePlates("1,", -2);
        duePlates("1;10", -2);
        duePlates("1x", -2);
        duePlates("10x", -3);
        duePlates("10 ", -3);
        duePlates("100", -3);
        duePlates("10.11", -3);
        duePlates("10:11", -3);
        duePlates("10/11", -3);
        duePlates("10,x", -4);
        duePlates("10,1x", -5);
        duePlates("10,;", -4);
        duePlates("10;;", -4);
        duePlates("10;,", -4);
        duePlates("1:", -2);
        duePlates("1/", -2);
    }

    private static void platesTellTheFirstWrongSign() {
        duePlates("x9", -1);
        duePlates("09;x", -2);
        duePlates("0x", -2);
        duePlates("10,09x", -5);
        duePlates("10;11;12;13;14", -9);
        duePlates("10x71", -3);
    }

    private static void platesMachineAsAtFirst() {
        DividingHead x = new DividingHead();
        Twin.busy(x);
        due("4: how many CIRCLES", Check.plates(x, "15,20;16,24;30"), 5);
        due("4: CIRCLE 0", x.count(4), 0);
        due("4: no TRAIN", x.count(5), 0);
        due("4: no MARKS", x.count(6), 0);
        due("4: PITCH stays", x.count(1), 60);
        due("4: GEARS stay", x.count(3), 4);
        x.cranks(1, 0, 0);
        Check.row("4: POSITION was 0, without RATIO", x, 1, 40);
    }

    private static void platesTextOf80() {
        StringBuilder b = new StringBuilder("10,11,12,13,14,15;10,11,12,13,14,15;10,11,12,13,14,15");
        while (b.length() < 80) {
            b.append('x');
        }
        duePlates(b.toString(), -54);
        duePlates("1".repeat(80), -3);
    }

    // ---- 5

    private static void gearsTwoOrThreeDigits() {
        dueGears("20", 1);
        dueGears("100", 1);
        dueGears("2", -2);
        dueGears("1000", -4);
        dueGears("100,20,100", 3);
        DividingHead x = new DividingHead();
        due("5: as many as stand there", Check.gears(x, "99,100,020"), 3);
        due("5: two digits", x.gear(0), 99);
        due("5: three digits", x.gear(1), 100);
        due("5: three digits, 0 first", x.gear(2), 20);
    }

    private static void gearsLastDigitCantBe() {
        dueGears("19", -2);
        dueGears("21", 1);
        dueGears("99", 1);
        dueGears("101", -3);
        dueGears("102,20", -3);
        dueGears("999", -3);
        dueGears("200", -3);
        dueGears("00", -2);
        dueGears("000", -3);
        dueGears("019", -3);
        dueGears("10", -2);
        dueGears("10,20", -2);
        dueGears("20,19", -5);
        dueGears("20,101", -6);
        dueGears("2020", -3);
    }

    private static void gearsThirteenthComma() {
        dueGears("20,20,20,20,20,20,20,20,20,20,20", 11);
        dueGears("20,20,20,20,20,20,20,20,20,20,20,", -34);
        dueGears("20,20,20,20,20,20,20,20,20,20,20,20", 12);
        dueGears("20,20,20,20,20,20,20,20,20,20,20,20,", -36);
        dueGears("20,20,20,20,20,20,20,20,20,20,20,20,20", -36);
        dueGears("20,20,20,20,20,20,20,20,20,20,20,20x", -36);
        dueGears("20,20,20,20,20,20,20,20,20,20,20,19,20", -35);
    }

    private static void gearsEndTooEarly() {
        dueGears("2", -2);
        dueGears("20,", -4);
        dueGears("20,3", -5);
        dueGears("100,", -5);
        dueGears("100,1", -6);
    }

    private static void gearsOtherSigns() {
        dueGears("x", -1);
        dueGears(",", -1);
        dueGears(",20", -1);
        dueGears("2x", -2);
        dueGears("2,20", -2);
        dueGears("20x", -3);
        dueGears("20;30", -3);
        dueGears("20 ", -3);
        dueGears("20:", -3);
        dueGears("20/", -3);
        dueGears("100x", -4);
        dueGears("20,,30", -4);
        dueGears("20,x", -4);
    }

    private static void gearsEmpty() {
        DividingHead x = new DividingHead();
        x.cuts();
        due("5: an empty one: none", x.gears(), 0);
        due("5: no GEARS", x.count(3), 0);
        due("5: THE MACHINE is as at first", x.count(6), 0);
        due("5: done", x.count(7), 2);
        due("5: none again", x.gears(), 0);
        due("5: done again", x.count(7), 3);
    }

    private static void gearsMachineAsAtFirst() {
        DividingHead x = new DividingHead();
        Twin.busy(x);
        due("5: how many", Check.gears(x, "30,40,50,60"), 4);
        due("5: CIRCLE 0", x.count(4), 0);
        due("5: no TRAIN", x.count(5), 0);
        due("5: no MARKS", x.count(6), 0);
        due("5: PITCH stays", x.count(1), 60);
        due("5: CIRCLES stay", x.count(2), 4);
        x.cranks(1, 0, 0);
        Check.row("5: POSITION was 0, without RATIO", x, 1, 40);
    }

    private static void gearsOfMostSigns() {
        dueGears("100,100,100,100,100,100,100,100,100,100,100,100", 12);
        dueGears("100,100,100,100,100,100,100,100,100,100,100,100,", -48);
        dueGears("2".repeat(80), -3);
    }

    // ---- 6

    private static void setsTellsWhatItWas() {
        DividingHead x = new DividingHead();
        due("6: WORM was 40", x.sets(0, 120), 40);
        due("6: WORM is 120", x.count(0), 120);
        due("6: PITCH stays", x.count(1), 50);
        due("6: WORM was 120", x.sets(0, 1), 120);
        due("6: PITCH was 50", x.sets(1, 10), 50);
        due("6: PITCH is 10", x.count(1), 10);
        due("6: WORM stays", x.count(0), 1);
        due("6: PITCH was 10", x.sets(1, 100), 10);
    }

    private static void setsItIsSo() {
        DividingHead x = new DividingHead();
        x.cuts();
        due("6: WORM is so", x.sets(0, 40), -2);
        due("6: PITCH is so", x.sets(1, 50), -2);
        due("6: what PITCH is WORM is not", x.sets(0, 50), 40);
        due("6: what WORM was PITCH is not", x.sets(1, 40), 50);
        x.sets(0, 1);
        due("6: least is so", x.sets(0, 1), -2);
        x.sets(0, 120);
        due("6: most is so", x.sets(0, 120), -2);
        DividingHead y = new DividingHead();
        y.cuts();
        y.sets(0, 40);
        due("6: it is so: the MARK stays", y.count(6), 1);
        due("6: it is so: nothing done", y.count(7), 1);
    }

    private static void setsOthers() {
        DividingHead x = new DividingHead();
        int[][] others = {{0, 0}, {0, 121}, {0, -40}, {0, LOW}, {0, FAR}, {1, 9}, {1, 101}, {1, 0}, {1, LOW}, {1, FAR},
            {-1, 40}, {2, 50}, {2, 0}, {LOW, 40}, {FAR, 40}};
        x.cuts();
        for (int[] o : others) {
            due("6: sets(" + o[0] + ", " + o[1] + ")", x.sets(o[0], o[1]), NONE);
        }
        due("6: refused, WORM stays", x.count(0), 40);
        due("6: refused, PITCH stays", x.count(1), 50);
        due("6: refused, the MARK stays", x.count(6), 1);
        due("6: refused, nothing done", x.count(7), 1);
    }

    private static void setsMachineAsAtFirst() {
        for (int what = 0; what < 2; what++) {
            DividingHead x = new DividingHead();
            Twin.busy(x);
            due("6: what it was", x.sets(what, 70), what == 0 ? 40 : 60);
            due("6: CIRCLE 0", x.count(4), 0);
            due("6: no TRAIN", x.count(5), 0);
            due("6: no MARKS", x.count(6), 0);
            due("6: CIRCLES stay", x.count(2), 4);
            due("6: GEARS stay", x.count(3), 4);
            x.cranks(0, 0, 0);
            Check.row("6: POSITION is 0", x, 0, 1);
            x.cranks(1, 0, 0);
            Check.row("6: no RATIO", x, 1, what == 0 ? 70 : 40);
        }
    }

    // ---- 7, 8

    private static void circleBounds() {
        DividingHead x = new DividingHead();
        due("7: the first", x.circle(0), 15);
        Check.row("7: its PLATE", x, 0);
        due("7: the last", x.circle(17), 49);
        Check.row("7: its PLATE", x, 2);
        for (int k : new int[] {-1, 18, LOW, FAR}) {
            Check.holds("7: none such: " + k, Twin.circleThrows(x, k));
        }
        Check.plates(x, "33");
        due("7: one alone", x.circle(0), 33);
        Check.row("7: its PLATE", x, 0);
        Check.holds("7: no second", Twin.circleThrows(x, 1));
    }

    private static void circleRowStays() {
        DividingHead x = new DividingHead();
        Check.holds("7: none such", Twin.circleThrows(x, 18));
        due("7: an empty ROW stays", x.count(8), 0);
        x.simple(7);
        Check.holds("7: none such", Twin.circleThrows(x, 18));
        Check.row("7: the ROW stays", x, 6, 5, 15);
    }

    private static void gearBounds() {
        DividingHead x = new DividingHead();
        due("8: the first", x.gear(0), 24);
        due("8: the last", x.gear(11), 100);
        for (int k : new int[] {-1, 12, LOW, FAR}) {
            Check.holds("8: none such: " + k, Twin.gearThrows(x, k));
        }
        due("8: no ROW", x.count(8), 0);
    }

    private static void gearOfNone() {
        DividingHead x = new DividingHead();
        Check.gears(x, "33");
        due("8: one alone", x.gear(0), 33);
        Check.holds("8: no second", Twin.gearThrows(x, 1));
        Check.gears(x, "");
        Check.holds("8: none at all", Twin.gearThrows(x, 0));
    }
}
