/** The bounds that promises 21 to 31 name: the machine. */
public final class MachineBoundsTest {
    private static final int NONE = DividingHead.NONE;
    private static final int FAR = Integer.MAX_VALUE;
    private static final int LOW = Integer.MIN_VALUE;

    private MachineBoundsTest() {
    }

    public static void main(String[] args) {
        usesBounds();
        usesOfOneCircle();
        usesLeavesTheRest();
        gearedGearsBounds();
        gearedAllUnlike();
        gearedTwoOrFour();
        gearedSides();
        gearedRatioIsWorm();
        gearedOverAnother();
        ungearedOfNone();
        ungearedTakesOut();
        cranksTurnsBounds();
        cranksHolesBounds();
        cranksBackBounds();
        cranksAllRound();
        cranksBackOverZero();
        cranksWithTrain();
        cranksLowerNumberOneLess();
        cranksLowerNumberJust();
        cranksLowerNumberOneMore();
        cranksByNothing();
        cutsUpTo60();
        cutsItIsOne();
        cutsIsOneAheadOfSixty();
        wipesNone();
        wipesAll();
        dividesBounds();
        dividesNoSuchWay();
        dividesTwoAndSixty();
        dividesBySomeHolesOnAndOn();
        dividesCircleUsedLast();
        dividesTrain();
        dividesFromAnywhere();
        markBounds();
        markOfOne();
        markAllRound();
        gapsNone();
        gapsOfOne();
        gapsLeastAndGreatest();
        gapsOfSixty();
        missingBounds();
        missingAll();
        missingNothing();
        missingOthers();
        reachesNoMarks();
        reachesOneHole();
        reachesItselfAllRound();
        reachesFirstOfSeveral();
        reachesUpTo20000();
        reachesNever();
        reachesGoingBack();
        reachesAtStandstill();
        Check.finish();
    }

    private static void due(String call, long got, long want) {
        Check.due(call, got, want);
    }

    private static DividingHead outfit(String plates, String gears, int worm) {
        DividingHead x = new DividingHead();
        Check.plates(x, plates);
        Check.gears(x, gears);
        x.sets(0, worm);
        return x;
    }

    /** POSITION, told by going on by nothing. */
    private static void duePosition(String call, DividingHead x, long up, long low) {
        due(call, x.cranks(0, 0, 0), 0);
        Check.row(call, x, up, low);
    }

    // ---- 21

    private static void usesBounds() {
        DividingHead x = new DividingHead();
        due("21: it has 0", x.uses(0), -2);
        due("21: -1", x.uses(-1), NONE);
        due("21: 18", x.uses(18), NONE);
        due("21: lowest", x.uses(LOW), NONE);
        due("21: far", x.uses(FAR), NONE);
        due("21: nothing done", x.count(7), 0);
        due("21: 17, the last", x.uses(17), 0);
        due("21: it has 17", x.uses(17), -2);
        due("21: 18", x.uses(18), NONE);
        due("21: 17 stays", x.count(4), 17);
        due("21: the one it had", x.uses(0), 17);
    }

    private static void usesOfOneCircle() {
        DividingHead x = outfit("10", "", 1);
        due("21: it has the one there is", x.uses(0), -2);
        due("21: no other", x.uses(1), NONE);
    }

    private static void usesLeavesTheRest() {
        DividingHead x = new DividingHead();
        x.geared(3, 4, NONE, NONE, 1);
        x.cranks(1, 0, 0);
        x.cuts();
        x.uses(5);
        due("21: the TRAIN stays", x.count(5), 2);
        due("21: the MARKS stay", x.count(6), 1);
        duePosition("21: POSITION stays", x, 5, 196);
    }

    // ---- 22

    private static void gearedGearsBounds() {
        DividingHead x = new DividingHead();
        due("22: 0 and 11", x.geared(0, 11, NONE, NONE, 1), 2);
        Check.row("22: 24 by 100", x, 6, 25);
        due("22: 11 and 0", x.geared(11, 0, NONE, NONE, 1), 2);
        Check.row("22: 100 by 24", x, 25, 6);
        due("22: c and d 0 and 11", x.geared(1, 2, 0, 11, 1), 4);
        Check.row("22: 24 * 24 by 28 * 100", x, 36, 175);
        due("22: c and d 11 and 0", x.geared(1, 2, 11, 0, 1), 4);
        Check.row("22: 24 * 100 by 28 * 24", x, 25, 7);
        int[][] others = {{-1, 0, 1, 2}, {12, 0, 1, 2}, {0, -1, 1, 2}, {0, 12, 1, 2}, {0, 1, -2, 2}, {0, 1, 12, 2},
            {0, 1, 2, -2}, {0, 1, 2, 12}, {12, 0, -1, -1}, {0, 12, -1, -1}, {-1, 0, -1, -1}, {0, -1, -1, -1},
            {-1, -1, -1, -1}, {LOW, 1, 2, 3}, {0, FAR, 2, 3}, {0, 1, LOW, 3}, {0, 1, 2, FAR}, {0, 1, LOW, LOW}};
        for (int[] o : others) {
            due("22: geared of " + java.util.Arrays.toString(o), x.geared(o[0], o[1], o[2], o[3], 1), NONE);
        }
        Check.row("22: the ROW stays", x, 25, 7);
        due("22: the TRAIN stays", x.count(5), 4);
        Check.gears(x, "");
        due("22: no GEARS", x.geared(0, 1, NONE, NONE, 1), NONE);
        Check.gears(x, "20");
        due("22: one GEAR", x.geared(0, 0, NONE, NONE, 1), NONE);
        due("22: no second", x.geared(0, 1, NONE, NONE, 1), NONE);
    }

    private static void gearedAllUnlike() {
        DividingHead x = new DividingHead();
        int[][] alike = {{2, 2, -1, -1}, {2, 2, 3, 4}, {2, 3, 2, 4}, {2, 3, 4, 2}, {3, 2, 2, 4}, {3, 2, 4, 2}, {3, 4, 2, 2},
            {2, 3, 2, 3}, {2, 3, 3, 2}, {2, 2, 2, 2}};
        for (int[] o : alike) {
            due("22: not unlike: " + java.util.Arrays.toString(o), x.geared(o[0], o[1], o[2], o[3], 1), NONE);
        }
        due("22: no TRAIN", x.count(5), 0);
        due("22: nothing done", x.count(7), 0);
        due("22: unlike by their numbers, alike by TEETH", x.geared(0, 1, NONE, NONE, 1), 2);
        Check.row("22: 1", x, 1, 1);
    }

    private static void gearedTwoOrFour() {
        DividingHead x = new DividingHead();
        due("22: c without d", x.geared(0, 1, 2, NONE, 1), NONE);
        due("22: d without c", x.geared(0, 1, NONE, 2, 1), NONE);
        due("22: neither, but not NONE", x.geared(0, 1, -2, -2, 1), NONE);
        due("22: two", x.geared(2, 4, NONE, NONE, 1), 2);
        Check.row("22: 28 by 40", x, 7, 10);
        due("22: two are in", x.count(5), 2);
        due("22: four", x.geared(2, 4, 3, 5, 1), 4);
        Check.row("22: 28 * 32 by 40 * 44", x, 28, 55);
        due("22: four are in", x.count(5), 4);
    }

    private static void gearedSides() {
        DividingHead x = new DividingHead();
        for (int side : new int[] {0, 2, -2, LOW, FAR}) {
            due("22: another SIDE: " + side, x.geared(3, 4, NONE, NONE, side), NONE);
        }
        due("22: no TRAIN", x.count(5), 0);
        due("22: SIDE 1", x.geared(3, 4, NONE, NONE, 1), 2);
        Check.row("22: RATIO", x, 4, 5);
        x.cranks(1, 0, 0);
        Check.row("22: WORM less RATIO", x, 5, 196);
        x.wipes();
        due("22: SIDE -1", x.geared(3, 4, NONE, NONE, -1), 2);
        Check.row("22: RATIO, without sign", x, 4, 5);
        x.cranks(1, 0, 0);
        Check.row("22: WORM and RATIO", x, 5, 204);
    }

    private static void gearedRatioIsWorm() {
        DividingHead x = outfit("10", "100,20,50,25,51", 5);
        due("22: RATIO is WORM", x.geared(0, 1, NONE, NONE, 1), -4);
        due("22: nothing done", x.count(5), 0);
        due("22: RATIO times SIDE is -WORM", x.geared(0, 1, NONE, NONE, -1), 2);
        due("22: RATIO is WORM, one is in", x.geared(0, 1, NONE, NONE, 1), -4);
        due("22: that stays", x.count(5), 2);
        Check.row("22: the ROW stays", x, 5, 1);
        due("22: RATIO a little more than WORM", x.geared(0, 1, 4, 2, 1), 4);
        Check.row("22: 51 by 10", x, 51, 10);
        x.sets(0, 10);
        due("22: four, RATIO is WORM", x.geared(0, 1, 2, 3, 1), -4);
        due("22: RATIO 5", x.geared(0, 1, NONE, NONE, 1), 2);
        x.sets(0, 1);
        due("22: RATIO above WORM", x.geared(0, 1, NONE, NONE, 1), 2);
        x.cranks(1, 0, 0);
        Check.row("22: the WORK goes back by 1 by 4", x, 3, 4);
    }

    private static void gearedOverAnother() {
        DividingHead x = new DividingHead();
        x.geared(2, 4, 3, 5, -1);
        x.cranks(1, 0, 0);
        due("22: another is put in", x.geared(3, 4, NONE, NONE, 1), 2);
        due("22: that alone is in", x.count(5), 2);
        x.wipes();
        x.cranks(1, 0, 0);
        Check.row("22: by that alone", x, 5, 196);
        due("22: the same again", x.geared(3, 4, NONE, NONE, 1), 2);
    }

    // ---- 23

    private static void ungearedOfNone() {
        DividingHead x = new DividingHead();
        due("23: there is none", x.ungeared(), -2);
        due("23: nothing done", x.count(7), 0);
        x.geared(0, 1, NONE, NONE, 1);
        due("23: two", x.ungeared(), 2);
        due("23: there is none more", x.ungeared(), -2);
        due("23: done once", x.count(7), 2);
    }

    private static void ungearedTakesOut() {
        DividingHead x = new DividingHead();
        x.cranks(3, 3, 0);
        x.cuts();
        x.geared(2, 4, 3, 5, -1);
        due("23: four", x.ungeared(), 4);
        due("23: none is in", x.count(5), 0);
        due("23: MARKS stay", x.count(6), 1);
        duePosition("23: POSITION stays", x, 2, 25);
        x.cranks(1, 0, 0);
        Check.row("23: RATIO is 0, whatever SIDE was", x, 21, 200);
    }

    // ---- 24

    private static void cranksTurnsBounds() {
        DividingHead x = new DividingHead();
        due("24: -1 TURNS", x.cranks(-1, 0, 0), NONE);
        due("24: 100 TURNS", x.cranks(100, 0, 0), NONE);
        due("24: lowest", x.cranks(LOW, 0, 0), NONE);
        due("24: far", x.cranks(FAR, 0, 0), NONE);
        due("24: nothing done", x.count(7), 0);
        due("24: no ROW", x.count(8), 0);
        due("24: 99 TURNS", x.cranks(99, 0, 0), 0);
        Check.row("24: 99 by 40", x, 19, 40);
        due("24: 0 TURNS", x.cranks(0, 1, 0), 0);
        Check.row("24: a HOLE", x, 143, 300);
        due("24: 98 TURNS back", x.cranks(98, 1, 1), 0);
        Check.row("24: 98 by 40 back", x, 1, 40);
    }

    private static void cranksHolesBounds() {
        DividingHead x = new DividingHead();
        int[] circles = {0, 5, 17};
        int[] holes = {15, 20, 49};
        for (int i = 0; i < 3; i++) {
            x.uses(circles[i]);
            due("24: -1 HOLES", x.cranks(0, -1, 0), NONE);
            due("24: HOLES", x.cranks(0, holes[i], 0), NONE);
            due("24: HOLES and 1", x.cranks(0, holes[i] + 1, 0), NONE);
            due("24: lowest", x.cranks(0, LOW, 0), NONE);
            due("24: far", x.cranks(0, FAR, 0), NONE);
            due("24: HOLES less 1", x.cranks(0, holes[i] - 1, 0), 0);
            due("24: 1 HOLE", x.cranks(0, 1, 0), 0);
            Check.row("24: a TURN for each", x, i == 0 ? 1 : i == 1 ? 1 : 3, i == 1 ? 20 : 40);
            due("24: 0 HOLES", x.cranks(0, 0, 0), 0);
        }
    }

    private static void cranksBackBounds() {
        DividingHead x = new DividingHead();
        due("24: back -1", x.cranks(1, 0, -1), NONE);
        due("24: back 2", x.cranks(1, 0, 2), NONE);
        due("24: lowest", x.cranks(1, 0, LOW), NONE);
        due("24: far", x.cranks(1, 0, FAR), NONE);
        due("24: back 1", x.cranks(1, 0, 1), 0);
        Check.row("24: back 1", x, 39, 40);
        due("24: back 0", x.cranks(2, 0, 0), 0);
        Check.row("24: back 0", x, 1, 40);
    }

    private static void cranksAllRound() {
        DividingHead x = new DividingHead();
        x.cranks(39, 14, 0);
        Check.row("24: a HOLE less than all round", x, 599, 600);
        x.cranks(0, 1, 0);
        Check.row("24: all round", x, 0, 1);
        x.cranks(40, 0, 0);
        Check.row("24: all round at once", x, 0, 1);
        x.cranks(99, 14, 0);
        Check.row("24: as far as can be", x, 299, 600);
        DividingHead y = outfit("10", "", 1);
        y.cranks(99, 9, 0);
        Check.row("24: 99 times all round and 9 HOLES", y, 9, 10);
        y.cranks(99, 1, 0);
        Check.row("24: all round", y, 0, 1);
    }

    private static void cranksBackOverZero() {
        DividingHead x = new DividingHead();
        x.cranks(0, 1, 1);
        Check.row("24: a HOLE back from 0", x, 599, 600);
        x.cranks(39, 14, 1);
        Check.row("24: back to 0", x, 0, 1);
        x.cranks(40, 0, 1);
        Check.row("24: all round, back", x, 0, 1);
        x.cranks(99, 14, 1);
        Check.row("24: as far back as can be", x, 301, 600);
    }

    private static void cranksWithTrain() {
        DividingHead x = outfit("10", "20,40,60,90", 1);
        x.geared(0, 1, NONE, NONE, 1);
        x.cranks(0, 1, 0);
        Check.row("24: 1/10 by 1/2", x, 1, 5);
        x.cranks(0, 4, 0);
        Check.row("24: all round", x, 0, 1);
        x.geared(1, 0, NONE, NONE, 1);
        x.cranks(0, 1, 0);
        Check.row("24: 1/10 by -1", x, 9, 10);
        x.cranks(0, 1, 1);
        Check.row("24: and back is on", x, 0, 1);
        x.geared(3, 0, 2, 1, 1);
        x.cranks(1, 0, 0);
        // 90 * 60 by 20 * 40 is 27 by 4, 1 less that -23 by 4
        Check.row("24: 1 by -23/4", x, 19, 23);
        x.cranks(1, 0, 1);
        x.geared(3, 0, 2, 1, -1);
        x.cranks(1, 0, 0);
        Check.row("24: 1 by 31/4", x, 4, 31);
    }

    /** 81 * 37 * 333667 is 999999999; 35 less 46 * 53 by 97 * 99 is 333667 by 9603, 35 less 97 by 20 is 603 by 20. */
    private static void cranksLowerNumberOneLess() {
        DividingHead x = outfit("27,37", "46,97,53,99,20", 35);
        x.geared(1, 4, NONE, NONE, 1);
        due("24: 201 by 27", x.cranks(7, 12, 0), 0);
        Check.row("24: 201 by 27 by 603 by 20", x, 20, 81);
        x.geared(0, 1, 2, 3, 1);
        due("24: a TURN", x.cranks(1, 0, 0), 0);
        due("24: 81 * 333667", x.row(1), 27027027);
        x.ungeared();
        x.uses(1);
        due("24: 1 by 37", x.cranks(0, 35, 0), 0);
        due("24: the lower number is 10^9 less 1", x.row(1), 999999999);
        due("24: it stays so, twice round", x.cranks(70, 0, 1), 0);
    }

    /** 8 and 31 * 67 by 97 * 98 is 78125 by 9506, times 50 HOLES: 5^9; 64 HOLES by 8: 2^9. */
    private static void cranksLowerNumberJust() {
        DividingHead x = outfit("50,64", "31,97,67,98", 8);
        x.geared(0, 1, 2, 3, -1);
        x.cranks(0, 1, 0);
        x.ungeared();
        x.uses(1);
        due("24: the lower number is 10^9", x.cranks(0, 1, 0), 0);
        due("24: the lower number is 10^9", x.row(1), 1000000000);
        due("24: it stays so", x.cranks(0, 2, 0), 0);
        due("24: it stays so", x.row(1), 1000000000);
        due("24: a MARK there", x.cuts(), 1);
    }

    /** 7 * 11 * 13 * 19 * 52579 is 1000000001; 6 less 29 * 49 by 90 * 100 is 52579 by 9000. */
    private static void cranksLowerNumberOneMore() {
        DividingHead x = outfit("11,13,14,19", "29,90,49,100", 6);
        x.geared(0, 1, 2, 3, 1);
        due("24: 11 * 52579", x.cranks(0, 1, 0), 0);
        due("24: 11 * 52579", x.row(1), 11 * 52579);
        x.ungeared();
        x.uses(1);
        due("24: times 13", x.cranks(0, 6, 0), 0);
        x.uses(3);
        due("24: times 19", x.cranks(0, 6, 0), 0);
        due("24: times 19", x.row(1), 142857143);
        long up = x.row(0);
        x.uses(2);
        due("24: times 7 is 10^9 and 1", x.cranks(0, 12, 0), -4);
        due("24: back too", x.cranks(0, 12, 1), -4);
        Check.row("24: the ROW stays", x, up, 142857143);
        due("24: all round can be", x.cranks(6, 0, 0), 0);
        Check.row("24: POSITION stayed", x, up, 142857143);
    }

    private static void cranksByNothing() {
        DividingHead x = new DividingHead();
        due("24: by nothing", x.cranks(0, 0, 0), 0);
        Check.row("24: by nothing", x, 0, 1);
        due("24: back by nothing", x.cranks(0, 0, 1), 0);
        Check.row("24: back by nothing", x, 0, 1);
        due("24: done", x.count(7), 2);
    }

    // ---- 25, 26

    private static void cutsUpTo60() {
        DividingHead x = new DividingHead();
        for (int i = 1; i <= 60; i++) {
            due("25: MARK " + i, x.cuts(), i);
            x.cranks(1, 1, 0);
        }
        due("25: there are 60", x.cuts(), -3);
        due("25: 60 stay", x.count(6), 60);
        x.wipes();
        due("25: none, so one more can be", x.cuts(), 1);
    }

    private static void cutsItIsOne() {
        DividingHead x = new DividingHead();
        due("25: at 0", x.cuts(), 1);
        due("25: it is one", x.cuts(), -2);
        x.cranks(40, 0, 0);
        due("25: all round it is one", x.cuts(), -2);
        x.cranks(0, 1, 0);
        due("25: a HOLE on", x.cuts(), 2);
        x.cranks(0, 2, 1);
        due("25: a HOLE back", x.cuts(), 3);
        x.cranks(0, 1, 0);
        due("25: it is one, the first still", x.cuts(), -2);
        due("25: three", x.count(6), 3);
    }

    private static void cutsIsOneAheadOfSixty() {
        DividingHead x = new DividingHead();
        x.divides(60, 0);
        due("25: it is one of 60", x.cuts(), -2);
        x.cranks(0, 1, 0);
        due("25: it is none of 60", x.cuts(), -3);
        x.divides(59, 1);
        x.divides(58, 0);
        x.cranks(0, 1, 0);
        due("25: 59", x.cuts(), 59);
        x.cranks(0, 1, 0);
        due("25: 60", x.cuts(), 60);
        due("25: it is one of 60", x.cuts(), -2);
    }

    private static void wipesNone() {
        DividingHead x = new DividingHead();
        due("26: none", x.wipes(), 0);
        due("26: done", x.count(7), 1);
        x.cranks(1, 0, 0);
        due("26: none, POSITION not 0", x.wipes(), 0);
        duePosition("26: POSITION is 0", x, 0, 1);
    }

    private static void wipesAll() {
        DividingHead x = new DividingHead();
        x.divides(60, 0);
        x.uses(3);
        x.geared(3, 4, NONE, NONE, -1);
        x.cranks(1, 1, 0);
        due("26: 60", x.wipes(), 60);
        due("26: none are left", x.count(6), 0);
        due("26: CIRCLE stays", x.count(4), 3);
        due("26: TRAIN stays", x.count(5), 2);
        duePosition("26: POSITION is 0", x, 0, 1);
        x.cranks(1, 0, 0);
        Check.row("26: with RATIO and SIDE", x, 5, 204);
    }

    // ---- 27

    private static void dividesBounds() {
        DividingHead x = new DividingHead();
        x.cuts();
        for (int n : new int[] {LOW, -2, 0, 1, 61, 62, FAR}) {
            for (int way = 0; way < 3; way++) {
                due("27: divides(" + n + ", " + way + ")", x.divides(n, way), NONE);
            }
        }
        for (int way : new int[] {LOW, -1, 3, FAR}) {
            due("27: divides(40, " + way + ")", x.divides(40, way), NONE);
        }
        due("27: nothing is done", x.count(7), 1);
        due("27: the MARK stays", x.count(6), 1);
    }

    private static void dividesNoSuchWay() {
        DividingHead x = outfit("10", "20,40", 1);
        x.geared(0, 1, NONE, NONE, 1);
        x.cranks(0, 3, 0);
        x.cuts();
        int done = x.count(7);
        due("27: no SIMPLE", x.divides(3, 0), -2);
        due("27: no COMPOUND", x.divides(2, 1), -2);
        due("27: no DIFFERENTIAL", x.divides(31, 2), -2);
        due("27: nothing is done", x.count(7), done);
        due("27: the TRAIN stays", x.count(5), 2);
        due("27: the MARK stays", x.count(6), 1);
        Check.row("27: the ROW stays", x, 3, 5);
        due("27: DIFFERENTIAL alone", x.divides(30, 2), 30);
        Check.row("27: DIFFERENTIAL alone", x, 1, 1);
    }

    private static void dividesTwoAndSixty() {
        DividingHead x = outfit("10,60", "50,50", 60);
        for (int way = 0; way < 2; way++) {
            due("27: 2 parts", x.divides(2, way), 2);
            Check.row("27: 2 parts", x, 1, 1);
            due("27: 2 MARKS", x.missing(2), 0);
            due("27: 60 parts", x.divides(60, way), 60);
            Check.row("27: 60 parts", x, 1, 1);
            due("27: 60 MARKS", x.missing(60), 0);
            duePosition("27: all round", x, 0, 1);
        }
        due("27: 59 parts by 60 and a TRAIN", x.divides(59, 2), 59);
        Check.row("27: 59 parts", x, 1, 1);
        due("27: 59 MARKS", x.missing(59), 0);
        // m 60 less 2 asks for 60 * 2 by 58, m 60 for 60 by 60: SIDE 1
        due("27: 59 parts by 60", x.count(5), 2);
    }

    private static void dividesBySomeHolesOnAndOn() {
        DividingHead x = outfit("10,20", "20,30,40,60", 1);
        due("27: 4/10 + 2/20", x.divides(2, 1), 2);
        Check.row("27: all round", x, 1, 1);
        due("27: both MARKS", x.missing(2), 0);
        due("27: 1/10 - 1/20", x.divides(20, 1), 20);
        Check.row("27: all round", x, 1, 1);
        due("27: all MARKS", x.missing(20), 0);
        x.sets(0, 2);
        due("27: by four GEARS", x.divides(3, 2), 3);
        Check.row("27: all round", x, 1, 1);
        due("27: all MARKS", x.missing(3), 0);
        due("27: four are in", x.count(5), 4);
    }

    private static void dividesCircleUsedLast() {
        DividingHead x = new DividingHead();
        x.divides(51, 1);
        due("27: COMPOUND: the other CIRCLE", x.count(4), 3);
        x.divides(51, 2);
        due("27: DIFFERENTIAL: that of its SIMPLE", x.count(4), 0);
        x.divides(7, 0);
        due("27: SIMPLE: the first CIRCLE", x.count(4), 6);
        x.divides(2, 0);
        due("27: SIMPLE: the first CIRCLE", x.count(4), 0);
    }

    private static void dividesTrain() {
        DividingHead x = new DividingHead();
        x.geared(2, 4, 3, 5, -1);
        x.divides(7, 0);
        due("27: SIMPLE: the TRAIN is out", x.count(5), 0);
        x.cranks(1, 0, 0);
        Check.row("27: without RATIO", x, 1, 40);
        x.geared(2, 4, 3, 5, -1);
        x.divides(51, 1);
        due("27: COMPOUND: the TRAIN is out", x.count(5), 0);
        x.geared(2, 4, 3, 5, 1);
        x.divides(51, 2);
        due("27: DIFFERENTIAL: its TRAIN is in", x.count(5), 2);
        x.cranks(1, 0, 0);
        Check.row("27: 40 and 4 by 5", x, 5, 204);
    }

    private static void dividesFromAnywhere() {
        DividingHead x = new DividingHead();
        x.cranks(3, 7, 0);
        x.cuts();
        x.cranks(5, 1, 0);
        due("27: all other MARKS go", x.divides(7, 0), 7);
        due("27: from POSITION 0 on", x.missing(7), 0);
        duePosition("27: POSITION is 0", x, 0, 1);
        due("27: again", x.divides(7, 0), 7);
        due("27: undone as one", x.undo() >= 0 ? x.count(6) : NONE, 7);
    }

    // ---- 28, 29

    private static void markBounds() {
        DividingHead x = new DividingHead();
        due("28: none", x.mark(0), NONE);
        x.divides(60, 0);
        due("28: the first", x.mark(0), 0);
        Check.row("28: the first", x, 0, 1, 1, 60);
        due("28: the last", x.mark(59), 0);
        Check.row("28: the last, all round", x, 59, 60, 1, 60);
        for (int k : new int[] {LOW, -1, 60, 61, FAR}) {
            due("28: mark(" + k + ")", x.mark(k), NONE);
        }
        Check.row("28: the ROW stays", x, 59, 60, 1, 60);
        x.divides(3, 0);
        due("28: the last of three", x.mark(2), 0);
        due("28: no fourth", x.mark(3), NONE);
    }

    private static void markOfOne() {
        DividingHead x = new DividingHead();
        x.cuts();
        due("28: one alone, at 0", x.mark(0), 0);
        Check.row("28: one alone, at 0", x, 0, 1, 1, 1);
        x.wipes();
        x.cranks(0, 1, 1);
        x.cuts();
        due("28: one alone, just below 1", x.mark(0), 0);
        Check.row("28: one alone, just below 1", x, 599, 600, 1, 1);
        due("28: no second", x.mark(1), NONE);
    }

    private static void markAllRound() {
        DividingHead x = new DividingHead();
        x.cranks(0, 1, 1);
        x.cuts();
        x.cranks(0, 2, 0);
        x.cuts();
        due("28: the lesser is the first, though cut later", x.mark(0), 0);
        Check.row("28: the first", x, 1, 600, 299, 300);
        due("28: the second", x.mark(1), 0);
        Check.row("28: over 0", x, 599, 600, 1, 300);
        x.cranks(0, 1, 1);
        x.cuts();
        due("28: 0 is the first", x.mark(0), 0);
        Check.row("28: 0", x, 0, 1, 1, 600);
        due("28: the last", x.mark(2), 0);
        Check.row("28: to 0", x, 599, 600, 1, 600);
    }

    private static void gapsNone() {
        DividingHead x = new DividingHead();
        x.cranks(1, 0, 0);
        due("29: there are no MARKS", x.gaps(), -2);
        Check.row("29: the ROW stays", x, 1, 40);
        x.divides(5, 0);
        x.wipes();
        due("29: there are none any more", x.gaps(), -2);
    }

    private static void gapsOfOne() {
        DividingHead x = new DividingHead();
        x.cranks(3, 3, 0);
        x.cuts();
        due("29: one alone", x.gaps(), 1);
        Check.row("29: all round", x, 1, 1, 1, 1);
    }

    private static void gapsLeastAndGreatest() {
        DividingHead x = new DividingHead();
        x.cuts();
        x.cranks(20, 0, 0);
        x.cuts();
        due("29: two alike", x.gaps(), 1);
        Check.row("29: two alike", x, 1, 2, 1, 2);
        x.cranks(0, 1, 0);
        x.cuts();
        due("29: three", x.gaps(), 3);
        Check.row("29: three", x, 1, 600, 1, 2);
        x.cranks(0, 2, 1);
        x.cuts();
        DividingHead y = new DividingHead();
        y.cuts();
        y.cranks(16, 0, 0);
        y.cuts();
        y.cranks(20, 0, 0);
        y.cuts();
        due("29: 2 by 5, 1 by 2, 1 by 10", y.gaps(), 3);
        Check.row("29: 2 by 5, 1 by 2, 1 by 10", y, 1, 10, 1, 2);
        due("29: four, two and two alike", x.gaps(), 2);
        Check.row("29: four", x, 1, 600, 299, 600);
    }

    private static void gapsOfSixty() {
        DividingHead x = new DividingHead();
        x.divides(60, 0);
        due("29: 60 alike", x.gaps(), 1);
        Check.row("29: 60 alike", x, 1, 60, 1, 60);
        DividingHead y = outfit("70", "", 120);
        y.cuts();
        for (int holes = 1; holes <= 59; holes++) {
            y.cranks(0, holes, 0);
            y.cuts();
        }
        due("29: 60, all unlike", y.gaps(), 60);
        // 1 and 2 and .. and 59 are 1770 of 8400
        Check.row("29: 60, all unlike", y, 1, 8400, 221, 280);
        due("29: the last", y.mark(59), 0);
        Check.row("29: the last", y, 59, 280, 221, 280);
    }

    // ---- 30

    private static void missingBounds() {
        DividingHead x = new DividingHead();
        x.cuts();
        due("30: 1, the least", x.missing(1), 0);
        Check.row("30: 1", x, 0);
        due("30: 2", x.missing(2), 1);
        Check.row("30: 2", x, 1, 0);
        due("30: 400, the most", x.missing(400), 399);
        Check.row("30: 400", x, 1, 0);
        for (int n : new int[] {LOW, -400, -1, 0, 401, 402, FAR}) {
            due("30: missing(" + n + ")", x.missing(n), NONE);
        }
        Check.row("30: the ROW stays", x, 1, 0);
    }

    private static void missingAll() {
        DividingHead x = new DividingHead();
        due("30: no MARKS", x.missing(400), 400);
        Check.row("30: no MARKS", x, 0, 0);
        due("30: no MARKS, of 1", x.missing(1), 1);
        Check.row("30: no MARKS, of 1", x, 0, 0);
        x.cranks(0, 1, 0);
        x.cuts();
        due("30: a MARK, but none of these", x.missing(400), 400);
        Check.row("30: a MARK, but none of these", x, 0, 1);
    }

    private static void missingNothing() {
        DividingHead x = new DividingHead();
        x.divides(60, 0);
        due("30: nothing", x.missing(60), 0);
        Check.row("30: nothing", x, 0);
        due("30: nothing of 30", x.missing(30), 0);
        Check.row("30: 30 are none of these", x, 30);
        due("30: nothing of 1", x.missing(1), 0);
        Check.row("30: 59 are none of these", x, 59);
        due("30: of 120", x.missing(120), 60);
        Check.row("30: the first", x, 1, 0);
        due("30: of 61", x.missing(61), 60);
        Check.row("30: 59 are none of these", x, 1, 59);
    }

    private static void missingOthers() {
        DividingHead x = new DividingHead();
        x.cuts();
        x.cranks(10, 0, 0);
        x.cuts();
        x.cranks(10, 0, 0);
        x.cuts();
        due("30: the last alone", x.missing(4), 1);
        Check.row("30: 3 of 4", x, 3, 0);
        x.cranks(10, 1, 0);
        x.cuts();
        due("30: a HOLE beside it", x.missing(4), 1);
        Check.row("30: a HOLE beside it", x, 3, 1);
        DividingHead y = new DividingHead();
        y.cranks(10, 0, 0);
        y.cuts();
        due("30: 0 is the first", y.missing(4), 3);
        Check.row("30: 0 is the first", y, 0, 0);
    }

    // ---- 31

    private static void reachesNoMarks() {
        DividingHead x = new DividingHead();
        x.cranks(1, 0, 0);
        due("31: no MARKS", x.reaches(), -2);
        Check.row("31: the ROW stays", x, 1, 40);
    }

    private static void reachesOneHole() {
        DividingHead x = new DividingHead();
        x.cuts();
        x.cranks(0, 1, 1);
        due("31: a HOLE", x.reaches(), 1);
        Check.row("31: its number", x, 0);
        x.cranks(0, 1, 1);
        due("31: two HOLES", x.reaches(), 2);
        x.cranks(0, 3, 0);
        due("31: a HOLE behind it: nearly all round", x.reaches(), 599);
    }

    private static void reachesItselfAllRound() {
        DividingHead x = new DividingHead();
        x.cuts();
        due("31: not by no HOLES, but all round", x.reaches(), 600);
        Check.row("31: its number", x, 0);
        DividingHead y = outfit("10", "", 1);
        y.cuts();
        due("31: all round by a TURN", y.reaches(), 10);
    }

    private static void reachesFirstOfSeveral() {
        DividingHead x = new DividingHead();
        x.divides(5, 0);
        x.cranks(0, 1, 0);
        due("31: the next one", x.reaches(), 119);
        Check.row("31: MARK 1", x, 1);
        x.cranks(39, 13, 0);
        due("31: over 0", x.reaches(), 1);
        Check.row("31: MARK 0", x, 0);
        x.cranks(0, 1, 0);
        due("31: from one to the next", x.reaches(), 120);
        Check.row("31: MARK 1", x, 1);
        x.cranks(32, 0, 0);
        due("31: from the last", x.reaches(), 120);
        Check.row("31: MARK 0", x, 0);
    }

    /** 120 less 97 by 89 is 10583 by 89: with 70 HOLES it is all round by 740810 of them. */
    private static void reachesUpTo20000() {
        DividingHead x = outfit("70", "20,97,89,100", 120);
        x.geared(1, 2, NONE, NONE, 1);
        x.cuts();
        due("31: all round by more than 20000", x.reaches(), -2);
        x.cranks(99, 0, 1);
        x.cranks(99, 0, 1);
        x.cranks(87, 49, 1);
        due("31: 19999", x.reaches(), 19999);
        Check.row("31: 19999", x, 0);
        x.cranks(0, 1, 1);
        due("31: 20000", x.reaches(), 20000);
        Check.row("31: 20000", x, 0);
        x.cranks(0, 1, 1);
        long up = x.row(0);
        long low = x.row(1);
        due("31: 20001", x.reaches(), -2);
        Check.row("31: the ROW stays", x, up, low);
    }

    private static void reachesNever() {
        DividingHead x = new DividingHead();
        x.uses(16);
        x.cranks(0, 1, 0);
        x.cuts();
        x.cranks(0, 1, 1);
        x.uses(0);
        due("31: never by this CIRCLE", x.reaches(), -2);
        x.uses(16);
        due("31: by its own", x.reaches(), 1);
    }

    private static void reachesGoingBack() {
        DividingHead x = outfit("10", "40,20", 1);
        x.geared(0, 1, NONE, NONE, 1);
        x.cuts();
        x.cranks(0, 1, 0);
        Check.row("31: 1 less 2: back by 1 by 10", x, 9, 10);
        due("31: 9 HOLES more", x.reaches(), 9);
        x.cranks(0, 2, 1);
        due("31: 1 by 10 above it", x.reaches(), 1);
        x.geared(0, 1, NONE, NONE, -1);
        Check.row("31: RATIO", x, 2, 1);
        // 1 and 2: on by 1 by 30: from 1 by 10 on to 1 are 27
        due("31: with the TRAIN as it is", x.reaches(), 27);
    }

    /** 1 less 99 by 100 is 1 by 100: a HOLE of 10 is ten times all round. */
    private static void reachesAtStandstill() {
        DividingHead x = outfit("10", "99,100", 1);
        x.geared(0, 1, NONE, NONE, 1);
        x.cuts();
        x.cranks(0, 1, 0);
        Check.row("31: a HOLE is ten times all round", x, 0, 1);
        due("31: so a HOLE leads to it", x.reaches(), 1);
        Check.row("31: its number", x, 0);
        x.ungeared();
        x.cranks(0, 1, 0);
        x.geared(0, 1, NONE, NONE, 1);
        due("31: or never", x.reaches(), -2);
    }
}
