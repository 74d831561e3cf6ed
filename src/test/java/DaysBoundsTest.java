/** The bounds that promises 32 to 38 name: days, what is undone, years, what is kept, counts and the ROW. */
public final class DaysBoundsTest {
    private static final int NONE = DividingHead.NONE;
    private static final int FAR = Integer.MAX_VALUE;
    private static final int LOW = Integer.MIN_VALUE;

    private DaysBoundsTest() {
    }

    public static void main(String[] args) {
        dayEmpty();
        dayOfMostSigns();
        dayEachActAlone();
        dayOtherSigns();
        dayEndTooEarly();
        dayNothingIsDoneThen();
        dayTillOneCantBe();
        dayTillUsesCantBe();
        dayTillCranksCantBe();
        dayTillGearedCantBe();
        dayOfSixtyMarks();
        dayLowerNumberTooLarge();
        dayOneActIsUndone();
        undoNone();
        undoOfSeven();
        undoOfEight();
        undoEachCall();
        undoNotOthers();
        undoThenOthers();
        undoAgainForgets();
        yearsBounds();
        yearsDraws();
        yearsOfThirty();
        yearsWithTrainAndMarks();
        yearsRefusedIsNotDone();
        yearsIsForgotten();
        keepBounds();
        keepOfTwo();
        keepAllThatTermOneTells();
        againNothingKept();
        againAsItWas();
        countBounds();
        countOfFullAndEmpty();
        rowBounds();
        Check.finish();
    }

    private static void due(String call, long got, long want) {
        Check.due(call, got, want);
    }

    private static void dueSo(String call, boolean got, boolean want) {
        Check.due(call, got ? 1 : 0, want ? 1 : 0);
    }

    private static DividingHead outfit(String plates, String gears, int worm) {
        DividingHead x = new DividingHead();
        Check.plates(x, plates);
        Check.gears(x, gears);
        x.sets(0, worm);
        return x;
    }

    private static void duePosition(String call, DividingHead x, long up, long low) {
        due(call, x.cranks(0, 0, 0), 0);
        Check.row(call, x, up, low);
    }

    private static void dueDay(DividingHead x, String text, int want, int stuck, int marks) {
        due("32: day() of " + text, Check.day(x, text), want);
        Check.row("32: day() of " + text, x, stuck, marks);
        due("32: THE TEXT is empty behind " + text, x.count(9), 0);
    }

    // ---- 32

    private static void dayEmpty() {
        DividingHead x = new DividingHead();
        due("32: no TEXT: nothing", x.day(), 0);
        Check.row("32: no TEXT", x, 0, 0);
        due("32: nothing to undo", x.count(7), 0);
        x.cuts();
        dueDay(x, "", 0, 0, 1);
        due("32: nothing more to undo", x.count(7), 1);
    }

    private static void dayOfMostSigns() {
        dueDay(new DividingHead(), "w".repeat(80), 80, 0, 0);
        dueDay(new DividingHead(), "w".repeat(79) + "c", 80, 0, 1);
        dueDay(new DividingHead(), "b0001".repeat(16), 16, 0, 0);
        DividingHead x = new DividingHead();
        dueDay(x, "t0001".repeat(15) + "u01cw", 18, 0, 0);
        due("32: the CIRCLE of the last signs", x.count(4), 1);
        due("32: 80 signs, the last can't stand there", Check.day(x, "c".repeat(79) + "x"), -80);
        due("32: 80 signs, the end is too early", Check.day(x, "c".repeat(78) + "u0"), -81);
        due("32: 80 signs, the end is too early", Check.day(x, "c".repeat(79) + "u"), -81);
    }

    private static void dayEachActAlone() {
        DividingHead x = new DividingHead();
        dueDay(x, "u17", 1, 0, 0);
        due("32: u is uses()", x.count(4), 17);
        dueDay(x, "t9948", 1, 0, 0);
        duePosition("32: t is cranks() on", x, 979, 1960);
        dueDay(x, "b9948", 1, 0, 0);
        duePosition("32: b is cranks() back", x, 0, 1);
        dueDay(x, "c", 1, 0, 1);
        due("32: c is cuts()", x.count(6), 1);
        dueDay(x, "w", 1, 0, 0);
        due("32: w is wipes()", x.count(6), 0);
        dueDay(x, "g1100-", 1, 0, 0);
        due("32: g is geared() of two", x.count(5), 2);
        dueDay(x, "t0100", 1, 0, 0);
        duePosition("32: SIDE -1", x, 6, 265);
        dueDay(x, "wg0011+t0100", 3, 0, 0);
        duePosition("32: SIDE 1", x, 25, 994);
        dueDay(x, "o", 1, 0, 0);
        due("32: o is ungeared()", x.count(5), 0);
        dueDay(x, "u00", 1, 0, 0);
        due("32: u00", x.count(4), 0);
    }

    private static void dueWrong(String text, int p) {
        DividingHead x = new DividingHead();
        x.simple(7);
        due("32: day() of " + text, Check.day(x, text), -1 - p);
        due("32: THE TEXT is empty behind " + text, x.count(9), 0);
        Check.row("32: the ROW stays behind " + text, x, 6, 5, 15);
        due("32: nothing is done behind " + text, x.count(7), 0);
        due("32: no MARK behind " + text, x.count(6), 0);
        due("32: no TRAIN behind " + text, x.count(5), 0);
        due("32: CIRCLE 0 behind " + text, x.count(4), 0);
    }

    private static void dayOtherSigns() {
        String[] first = {"x", "C", "0", "+", "-", " ", ",", "\0", "\377", "a", "d", "v", "s", "x01"};
        for (String t : first) {
            dueWrong(t, 0);
        }
        dueWrong("ux0", 1);
        dueWrong("u0x", 2);
        dueWrong("u-1", 1);
        dueWrong("u001", 3);
        dueWrong("u0:", 2);
        dueWrong("u0/", 2);
        for (String t : new String[] {"t", "b"}) {
            dueWrong(t + "x000", 1);
            dueWrong(t + "0x00", 2);
            dueWrong(t + "00x0", 3);
            dueWrong(t + "000x", 4);
            dueWrong(t + "00,0", 3);
            dueWrong(t + "00000", 5);
        }
        dueWrong("gx001+", 1);
        dueWrong("g0x01+", 2);
        dueWrong("g00x1+", 3);
        dueWrong("g000x+", 4);
        dueWrong("g0001x", 5);
        dueWrong("g00010", 5);
        dueWrong("g0001,", 5);
        dueWrong("g0001++", 6);
        dueWrong("c,c", 1);
        dueWrong("c0", 1);
        dueWrong("w w", 1);
        dueWrong("o-", 1);
    }

    private static void dayEndTooEarly() {
        dueWrong("u", 1);
        dueWrong("u0", 2);
        for (String t : new String[] {"t", "b", "g"}) {
            dueWrong(t, 1);
            dueWrong(t + "0", 2);
            dueWrong(t + "00", 3);
            dueWrong(t + "001", 4);
        }
        dueWrong("g0001", 5);
        dueWrong("cu", 2);
        dueWrong("wg0001", 6);
    }

    private static void dayNothingIsDoneThen() {
        dueWrong("cx", 1);
        dueWrong("u07cg0102+x", 10);
        dueWrong("u07cg0102+t0000u0", 17);
        // the second c could not be done, but a sign that can't stand there is told ahead of that
        dueWrong("ccx", 2);
    }

    private static void dayTillOneCantBe() {
        DividingHead x = new DividingHead();
        dueDay(x, "ccw", 1, 1, 1);
        due("32: w is not done", x.count(6), 1);
        dueDay(x, "c", 0, 1, 1);
        dueDay(x, "wct0001co", 4, 1, 2);
        dueDay(x, "o", 0, 1, 2);
        dueDay(x, "wcc", 2, 1, 1);
        dueDay(x, "wcw", 3, 0, 0);
        dueDay(x, "g0001+oo", 2, 1, 0);
    }

    private static void dayTillUsesCantBe() {
        DividingHead x = new DividingHead();
        dueDay(x, "u00c", 0, 1, 0);
        dueDay(x, "u18c", 0, 1, 0);
        dueDay(x, "u99c", 0, 1, 0);
        dueDay(x, "u17u17c", 1, 1, 0);
        due("32: the first is done", x.count(4), 17);
        dueDay(x, "u16u18", 1, 1, 0);
        due("32: the first is done", x.count(4), 16);
    }

    private static void dayTillCranksCantBe() {
        DividingHead x = new DividingHead();
        dueDay(x, "t0015", 0, 1, 0);
        dueDay(x, "b0015", 0, 1, 0);
        dueDay(x, "t9914", 1, 0, 0);
        dueDay(x, "b9914", 1, 0, 0);
        dueDay(x, "u17t0048u00t0014t0015", 4, 1, 0);
        dueDay(x, "t0000b0000", 2, 0, 0);
    }

    private static void dayTillGearedCantBe() {
        DividingHead x = new DividingHead();
        dueDay(x, "g0000+", 0, 1, 0);
        dueDay(x, "g0012+", 0, 1, 0);
        dueDay(x, "g1200+", 0, 1, 0);
        dueDay(x, "g9900-", 0, 1, 0);
        dueDay(x, "g0011+g1100-", 2, 0, 0);
        DividingHead y = outfit("10", "100,20", 5);
        dueDay(y, "g0001+", 0, 1, 0);
        dueDay(y, "g0001-g0100+g0001+o", 2, 1, 0);
        due("32: a TRAIN is in still", y.count(5), 2);
        x = outfit("10", "", 5);
        dueDay(x, "g0001+", 0, 1, 0);
    }

    private static void dayOfSixtyMarks() {
        DividingHead x = new DividingHead();
        x.divides(58, 0);
        dueDay(x, "t0001ct0001ct0001ct0001", 5, 1, 60);
        duePosition("32: -3 ends it, three HOLES of 29 on", x, 3, 1160);
        dueDay(x, "wc", 2, 0, 1);
    }

    private static void dayLowerNumberTooLarge() {
        DividingHead x = outfit("11,13,14,19", "29,90,49,100", 6);
        x.geared(0, 1, 2, 3, 1);
        dueDay(x, "t0001ou01t0006u03t0006u02t0012c", 7, 1, 0);
        due("32: -4 ends it", x.count(4), 2);
        x.cranks(6, 0, 0);
        due("32: before it", x.row(1), 142857143);
    }

    private static void dayOneActIsUndone() {
        DividingHead x = new DividingHead();
        dueDay(x, "c", 1, 0, 1);
        due("32: one ACT", x.count(7), 1);
        dueDay(x, "c", 0, 1, 1);
        due("32: no ACT", x.count(7), 1);
        dueDay(x, "t0001ct0001ct0001c", 6, 0, 4);
        due("32: six ACTS, as one", x.count(7), 2);
        dueDay(x, "wo", 1, 1, 0);
        due("32: one ACT, then one that can't be", x.count(7), 3);
        due("33: undone", x.undo(), 2);
        due("33: four MARKS", x.count(6), 4);
        duePosition("33: POSITION", x, 1, 200);
        due("33: undone", x.undo(), 2);
        due("33: undone", x.undo(), 1);
        due("33: one MARK", x.count(6), 1);
    }

    // ---- 33

    private static void undoNone() {
        DividingHead x = new DividingHead();
        due("33: none", x.undo(), NONE);
        x.cuts();
        due("33: one", x.undo(), 0);
        due("33: none more", x.undo(), NONE);
        due("33: no MARK", x.count(6), 0);
    }

    private static void undoOfSeven() {
        for (int calls = 1; calls <= 7; calls++) {
            DividingHead x = new DividingHead();
            for (int k = 1; k <= calls; k++) {
                x.uses(k);
                due("33: to undo", x.count(7), k);
            }
            for (int left = calls - 1; left >= 0; left--) {
                due("33: left", x.undo(), left);
                due("33: the CIRCLE before", x.count(4), left);
            }
            due("33: none of " + calls, x.undo(), NONE);
        }
    }

    private static void undoOfEight() {
        for (int calls = 8; calls <= 17; calls++) {
            DividingHead x = new DividingHead();
            for (int k = 1; k <= calls; k++) {
                x.uses(k);
            }
            due("33: 7 are kept of " + calls, x.count(7), 7);
            x.years(1, 30);
            x.uses(99);
            for (int left = 6; left >= 0; left--) {
                due("33: left of " + calls, x.undo(), left);
                due("33: the CIRCLE before", x.count(4), calls - 7 + left);
            }
            due("33: the latest 7 of " + calls, x.count(4), calls - 7);
            due("33: none", x.undo(), NONE);
        }
    }

    private static void undoEachCall() {
        Twin.Calls[] calls = {
            x -> Check.plates(x, "15,20;30"), x -> Check.gears(x, "20,30"), x -> Check.gears(x, ""), x -> x.sets(0, 41),
            x -> x.sets(1, 51), x -> x.uses(0), x -> x.geared(2, 3, 0, 1, -1), x -> x.geared(0, 1, NONE, NONE, 1),
            x -> x.ungeared(), x -> x.cranks(1, 1, 0), x -> x.cranks(1, 1, 1), x -> x.cranks(0, 0, 0),
            x -> x.cranks(7, 0, 0), x -> x.wipes(), x -> x.divides(3, 0), x -> Check.day(x, "wc"), x -> Check.day(x, "wccc"),
        };
        for (int i = 0; i < calls.length; i++) {
            Twin.Calls call = calls[i];
            DividingHead x = new DividingHead();
            Twin.Calls scene = y -> {
                Twin.busy(y);
                y.undo();
                y.undo();
            };
            scene.on(x);
            call.on(x);
            due("33: call " + i + " can be undone", x.count(7), 6);
            Twin.compare("33: call " + i + " is undone", scene, y -> {
                call.on(y);
                y.undo();
                y.end(0);
                y.circle(0);
            }, y -> {
                y.end(0);
                y.circle(0);
            });
        }
        DividingHead x = new DividingHead();
        x.cuts();
        due("33: cuts() can be undone", x.undo(), 0);
        due("33: no MARK", x.count(6), 0);
    }

    private static void undoNotOthers() {
        DividingHead x = new DividingHead();
        x.cuts();
        x.sign(0);
        x.end(0);
        x.keep(0);
        x.years(3, 30);
        x.simple(7);
        x.gaps();
        x.reaches();
        x.circle(3);
        x.ratios();
        // refused, or answered below 0
        x.cuts();
        x.uses(0);
        x.uses(99);
        x.sets(0, 40);
        x.ungeared();
        x.cranks(100, 0, 0);
        x.geared(0, 0, NONE, NONE, 1);
        x.divides(51, 0);
        Check.plates(x, "x");
        Check.gears(x, "x");
        Check.day(x, "x");
        Check.day(x, "c");
        Check.day(x, "");
        due("33: such as were done", x.count(7), 1);
        due("33: cuts()", x.undo(), 0);
        due("33: no MARK", x.count(6), 0);
    }

    private static void undoThenOthers() {
        DividingHead x = new DividingHead();
        for (int k = 1; k <= 9; k++) {
            x.uses(k);
        }
        x.undo();
        x.undo();
        due("33: CIRCLE 7", x.count(4), 7);
        due("33: 5 are left", x.count(7), 5);
        x.uses(17);
        due("33: 6", x.count(7), 6);
        x.uses(16);
        x.uses(15);
        due("33: 7 again", x.count(7), 7);
        int[] before = {16, 17, 7, 6, 5, 4, 3};
        for (int i = 0; i < 7; i++) {
            due("33: left", x.undo(), 6 - i);
            due("33: the CIRCLE before", x.count(4), before[i]);
        }
        due("33: none", x.undo(), NONE);
    }

    private static void undoAgainForgets() {
        DividingHead x = new DividingHead();
        x.cuts();
        x.keep(0);
        x.uses(3);
        dueSo("33: again() refused", x.again(1), false);
        dueSo("33: again() refused", x.again(2), false);
        due("33: it forgets nothing then", x.count(7), 2);
        dueSo("33: again()", x.again(0), true);
        due("33: it forgets them", x.count(7), 0);
        due("33: none", x.undo(), NONE);
        due("33: as it was kept", x.count(6), 1);
        x.uses(5);
        due("33: one", x.undo(), 0);
        due("33: as it was kept", x.count(4), 0);
        due("33: none", x.undo(), NONE);
    }

    // ---- 34

    private static void dueYears(String what, DividingHead x, int seed, int n, int marks, long up, long low) {
        due("34: " + what + " years(" + seed + ", " + n + ")", x.years(seed, n), marks);
        Check.row("34: " + what + " years(" + seed + ", " + n + ")", x, up, low);
    }

    private static void yearsBounds() {
        DividingHead x = new DividingHead();
        for (int n : new int[] {LOW, -1, 0, 31, 32, FAR}) {
            due("34: another n: " + n, x.years(1, n), NONE);
        }
        due("34: no ROW", x.count(8), 0);
        dueYears("least", x, 1, 1, 0, 3, 100);
        dueYears("most", x, 1, 30, 8, 571237, 595080);
        due("34: 29", x.years(1, 29), 7);
        due("34: another n", x.years(1, 31), NONE);
        due("34: the ROW stays", x.count(8), 2);
    }

    /** Worked out apart from Java, with whole numbers of any size. */
    private static void yearsDraws() {
        DividingHead x = new DividingHead();
        dueYears("0: a CIRCLE", x, 0, 1, 0, 0, 1);
        dueYears("0, 0: it has it then", x, 0, 2, 0, 0, 1);
        dueYears("2: 1 and 3 of 15", x, 1, 1, 0, 3, 100);
        dueYears("2, 3: and a MARK", x, 1, 2, 1, 3, 100);
        dueYears("3: a MARK", x, 3, 1, 1, 0, 1);
        dueYears("3, 3: it is one", x, 3, 2, 1, 0, 1);
        dueYears("0, 3", x, 2, 2, 1, 0, 1);
        dueYears("R below 0 at once", x, -1, 1, 0, 67, 600);
        dueYears("R below 0 at once", x, -1, 2, 0, 29, 150);
        dueYears("the greatest seed", x, FAR, 1, 0, 1, 20);
        dueYears("the greatest seed", x, FAR, 2, 0, 7, 75);
        dueYears("the least seed", x, LOW, 2, 0, 0, 1);
        dueYears("the CIRCLE drawn", x, 12345, 2, 0, 3, 35);
        dueYears("below 0", x, -77, 1, 0, 1, 100);
    }

    private static void yearsOfThirty() {
        DividingHead x = new DividingHead();
        dueYears("", x, 0, 30, 2, 175667, 1278900);
        dueYears("some refused as too large", x, 2, 30, 4, 39058807, 74845056);
        dueYears("", x, 3, 30, 6, 1637107, 2432955);
        dueYears("", x, -1, 30, 4, 231367, 4399200);
        dueYears("", x, FAR, 30, 4, 41773337, 50929200);
        dueYears("", x, LOW, 30, 2, 31040363, 34020480);
        dueYears("", x, 12345, 30, 3, 197957, 568400);
        dueYears("", x, -77, 30, 6, 45501, 266600);
        dueYears("the same again", x, 0, 30, 2, 175667, 1278900);
    }

    private static void yearsWithTrainAndMarks() {
        DividingHead x = outfit("10,11,13", "40,100", 1);
        x.uses(1);
        x.cuts();
        x.cranks(0, 3, 0);
        x.cuts();
        x.geared(0, 1, NONE, NONE, -1);
        dueYears("from THE MACHINE as it is", x, 0, 6, 2, 53, 154);
        dueYears("from THE MACHINE as it is", x, 1, 6, 3, 39, 77);
        dueYears("from THE MACHINE as it is", x, 2, 6, 3, 360, 1001);
        dueYears("from THE MACHINE as it is", x, 3, 6, 3, 8, 11);
    }

    private static void yearsRefusedIsNotDone() {
        DividingHead x = new DividingHead();
        x.divides(60, 0);
        x.cranks(0, 1, 0);
        dueYears("60 MARKS", x, 1, 5, 60, 9, 100);
        dueYears("60 MARKS", x, 2, 5, 60, 3907, 35200);
        dueYears("60 MARKS", x, 4, 5, 60, 107, 760);
        DividingHead y = outfit("11,13,14,19", "29,90,49,100", 6);
        y.geared(0, 1, 2, 3, 1);
        y.cranks(0, 1, 0);
        y.ungeared();
        y.uses(1);
        y.cranks(0, 6, 0);
        y.uses(3);
        y.cranks(0, 6, 0);
        y.uses(2);
        dueYears("too large", y, 4, 10, 1, 20730808, 142857143);
        dueYears("too large", y, 1, 10, 2, 12488351, 77922078);
        dueYears("too large", y, 5, 10, 1, 10244372, 428571429);
        dueYears("too large", y, 7, 10, 1, 20730808, 142857143);
    }

    private static void yearsIsForgotten() {
        for (int n : new int[] {1, 30}) {
            for (int seed = 0; seed < 4; seed++) {
                int from = seed;
                Twin.staysButRow("34: years(" + from + ", " + n + ") is forgotten", Twin::busy, x -> x.years(from, n));
            }
        }
    }

    // ---- 35, 36

    private static void keepBounds() {
        DividingHead x = new DividingHead();
        for (int i : new int[] {LOW, -1, 2, 3, FAR}) {
            dueSo("35: others: " + i, x.keep(i), false);
            dueSo("36: others: " + i, x.again(i), false);
        }
        dueSo("35: nothing was kept: 0", x.again(0), false);
        dueSo("35: nothing was kept: 1", x.again(1), false);
        dueSo("35: 0", x.keep(0), true);
        dueSo("35: 1", x.keep(1), true);
        due("35: not to undo", x.count(7), 0);
        due("35: no ROW", x.count(8), 0);
    }

    private static void keepOfTwo() {
        DividingHead x = new DividingHead();
        x.uses(3);
        x.keep(0);
        x.uses(4);
        x.keep(1);
        x.uses(5);
        dueSo("36: 0", x.again(0), true);
        due("36: 0", x.count(4), 3);
        dueSo("36: 1", x.again(1), true);
        due("36: 1", x.count(4), 4);
        dueSo("36: 0 again", x.again(0), true);
        due("36: 0 again", x.count(4), 3);
        x.uses(6);
        x.keep(0);
        x.uses(7);
        dueSo("35: over what was kept", x.again(0), true);
        due("35: over what was kept", x.count(4), 6);
        dueSo("35: the other one stays", x.again(1), true);
        due("35: the other one stays", x.count(4), 4);
        x.uses(8);
        x.undo();
        dueSo("35: undo() leaves it", x.again(0), true);
        due("35: undo() leaves it", x.count(4), 6);
    }

    private static void keepAllThatTermOneTells() {
        Twin.Calls spoil = x -> {
            Check.plates(x, "33");
            Check.gears(x, "33");
            x.sets(0, 7);
            x.sets(1, 70);
            x.cranks(1, 1, 0);
            x.cuts();
        };
        Twin.compare("36: it is as it was kept under 0", x -> {
            Twin.busy(x);
            x.keep(0);
        }, x -> {
            spoil.on(x);
            x.again(0);
            x.end(0);
            x.circle(0);
        }, x -> {
            x.again(0);
            x.end(0);
            x.circle(0);
        });
        Twin.compare("36: it is as it was kept under 1", x -> {
            Twin.busy(x);
            x.keep(1);
        }, x -> {
            spoil.on(x);
            x.keep(0);
            x.divides(3, 0);
            x.again(1);
            x.end(0);
            x.circle(0);
            x.keep(0);
        }, x -> {
            x.again(1);
            x.keep(0);
            x.end(0);
            x.circle(0);
        });
    }

    private static void againNothingKept() {
        DividingHead x = new DividingHead();
        x.cuts();
        dueSo("36: nothing kept", x.again(0), false);
        due("36: the MARK stays", x.count(6), 1);
        x.keep(1);
        dueSo("36: nothing kept under 0", x.again(0), false);
        dueSo("36: kept under 1", x.again(1), true);
    }

    private static void againAsItWas() {
        DividingHead x = new DividingHead();
        x.keep(0);
        Twin.busy(x);
        x.mark(1);
        dueSo("36: as at first", x.again(0), true);
        Check.row("36: the ROW stays", x, 61, 785, 149, 157);
        due("36: THE TEXT stays", x.count(9), 2);
        int[] counts = {40, 50, 18, 12, 0, 0, 0, 0};
        for (int i = 0; i < counts.length; i++) {
            due("36: count(" + i + ")", x.count(i), counts[i]);
        }
        due("36: PLATES", x.count(10), 3);
        due("36: HOLES", x.circle(17), 49);
        due("36: TEETH", x.gear(11), 100);
        x.cranks(1, 0, 0);
        Check.row("36: POSITION, RATIO", x, 1, 40);
    }

    // ---- 37, 38

    private static void countBounds() {
        DividingHead x = new DividingHead();
        Twin.busy(x);
        int[] counts = {40, 60, 4, 4, 1, 2, 2, 7, 4, 2, 2};
        for (int i = 0; i < counts.length; i++) {
            due("37: count(" + i + ")", x.count(i), counts[i]);
        }
        for (int what : new int[] {LOW, -2, -1, 11, 12, FAR}) {
            due("37: count(" + what + ")", x.count(what), NONE);
        }
    }

    private static void countOfFullAndEmpty() {
        DividingHead x = new DividingHead();
        x.divides(60, 0);
        x.geared(0, 1, 2, 3, 1);
        x.tree(400, 1);
        for (int i = 0; i < 20; i++) {
            x.sign(0);
        }
        due("37: four GEARS of its TRAIN", x.count(5), 4);
        due("37: 60 MARKS", x.count(6), 60);
        due("37: 60 numbers of the ROW", x.count(8), 60);
        due("37: 80 signs", x.count(9), 80);
        x.end(0);
        x.gears();
        due("37: no GEARS", x.count(3), 0);
        due("37: no TRAIN", x.count(5), 0);
        due("37: no MARKS", x.count(6), 0);
        x.tree(1, 1);
        due("37: no numbers of the ROW", x.count(8), 0);
        due("37: no signs", x.count(9), 0);
    }

    private static void rowBounds() {
        DividingHead x = new DividingHead();
        for (int i : new int[] {LOW, -1, 0, 1, FAR}) {
            Check.holds("38: none at first: " + i, Twin.rowThrows(x, i));
        }
        x.compound(51);
        due("38: the first", x.row(0), 2);
        due("38: the last", x.row(4), -6);
        for (int i : new int[] {LOW, -1, 5, 6, 60, FAR}) {
            Check.holds("38: none such: " + i, Twin.rowThrows(x, i));
        }
        due("38: it stays", x.row(0), 2);
        x.tree(400, 1);
        due("38: number 59", x.row(59), 1);
        Check.holds("38: 60", Twin.rowThrows(x, 60));
        x.simple(7);
        due("38: told last", x.row(2), 15);
        Check.holds("38: of a longer one before nothing is left", Twin.rowThrows(x, 3));
        x.tree(1, 1);
        Check.holds("38: an empty one", Twin.rowThrows(x, 0));
        numbersBeyondInt();
    }

    /** The numbers are those of the shared test. */
    private static void numbersBeyondInt() {
        DividingHead x = new DividingHead();
        x.uses(16);
        x.geared(10, 11, 5, 7, 1);
        x.cranks(0, 1, 0);
        x.cuts();
        x.cranks(0, 1, 1);
        x.geared(10, 11, 5, 7, -1);
        x.uses(15);
        x.cranks(0, 13, 0);
        x.cuts();
        x.cranks(0, 13, 1);
        x.uses(14);
        x.geared(10, 11, 5, 7, 1);
        x.cranks(0, 13, 0);
        x.cuts();
        due("38: three gaps", x.gaps(), 3);
        Check.row("38: beyond an int", x, 871161200, 1381797565773L, 52645529, 53044529);
    }
}
