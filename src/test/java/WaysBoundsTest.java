/** The bounds that promises 9 to 13 name: ways to divide. */
public final class WaysBoundsTest {
    private static final int NONE = DividingHead.NONE;
    /** No number of parts. */
    private static final int[] OTHERS = {Integer.MIN_VALUE, -400, -40, -1, 0, 1, 401, 402, Integer.MAX_VALUE};

    private WaysBoundsTest() {
    }

    public static void main(String[] args) {
        simpleParts();
        simpleNone();
        simpleTurnsOfZero();
        simpleHolesOfZero();
        simpleHolesOneLessThanAll();
        simpleOfAllCircles();
        simpleTheFirst();
        simpleOfLeastAndMostWorm();
        compoundParts();
        compoundNone();
        compoundOfOnePlate();
        compoundHolesOneLessThanAll();
        compoundTurnsOfZero();
        compoundHolesOfTheOtherNotZero();
        compoundHolesOfTheOneNotZero();
        compoundHolesOfNoWholeTurn();
        compoundLeastTogether();
        compoundFirstByCircles();
        compoundFirstByTheOtherCircle();
        compoundThenLeastA();
        compoundThenLeastB();
        compoundOfSeveralPlates();
        differentialParts();
        differentialNone();
        differentialOneLessIsFirst();
        differentialOneMoreAheadOfTwoLess();
        differentialTwoAtLeast();
        differentialTwentyLess();
        differentialTwentyMore();
        differentialNotItself();
        differentialHasSimple();
        differentialAbove400();
        differentialFirstTrain();
        differentialOfFourGears();
        waysParts();
        waysOfEachKind();
        hardLowAndHigh();
        hardSixtyAtMost();
        hardNone();
        hardAll();
        hardKinds();
        Check.finish();
    }

    private static void due(String call, long got, long want) {
        Check.due(call, got, want);
    }

    private static DividingHead outfit(String plates, String gears, int worm) {
        DividingHead x = new DividingHead();
        Check.plates(x, plates);
        Check.gears(x, gears);
        x.sets(0, worm);
        return x;
    }

    // ---- 9

    private static void simpleParts() {
        DividingHead x = new DividingHead();
        due("9: n 2, the least", x.simple(2), 18);
        Check.row("9: n 2", x, 0, 20, 0);
        due("9: n 3", x.simple(3), 6);
        Check.row("9: n 3", x, 0, 13, 5);
        due("9: n 400, the most", x.simple(400), 1);
        Check.row("9: n 400", x, 5, 0, 2);
        due("9: n 399", x.simple(399), -2);
        for (int n : OTHERS) {
            due("9: simple(" + n + ")", x.simple(n), NONE);
        }
        Check.row("9: the ROW stays with NONE", x, 5, 0, 2);
    }

    private static void simpleNone() {
        DividingHead x = new DividingHead();
        x.simple(7);
        due("9: none", x.simple(51), -2);
        Check.row("9: the ROW stays with -2", x, 6, 5, 15);
    }

    private static void simpleTurnsOfZero() {
        DividingHead x = new DividingHead();
        due("9: WORM less than n", x.simple(41), 1);
        Check.row("9: 40 of 41", x, 14, 0, 40);
        due("9: n of 40 is a TURN", x.simple(40), 18);
        Check.row("9: a TURN", x, 0, 1, 0);
        due("9: a TURN and a HOLE of 39", x.simple(39), 1);
        Check.row("9: a TURN and a HOLE", x, 13, 1, 1);
    }

    private static void simpleHolesOfZero() {
        DividingHead x = new DividingHead();
        due("9: no HOLES, all CIRCLES", x.simple(20), 18);
        Check.row("9: two TURNS", x, 0, 2, 0);
    }

    private static void simpleHolesOneLessThanAll() {
        DividingHead x = outfit("20", "", 39);
        due("9: 39 by 20", x.simple(20), 1);
        Check.row("9: a TURN and 19 HOLES", x, 0, 1, 19);
        x.sets(0, 41);
        due("9: 41 by 20", x.simple(20), 1);
        Check.row("9: two TURNS and a HOLE", x, 0, 2, 1);
    }

    private static void simpleOfAllCircles() {
        DividingHead x = outfit("10,20,30;40;50,60", "", 1);
        due("9: by all", x.simple(10), 6);
        Check.row("9: by all", x, 0, 0, 1);
        due("9: by the last alone", x.simple(12), 1);
        Check.row("9: by the last alone", x, 5, 0, 5);
        due("9: by the third and the last", x.simple(15), 2);
        Check.row("9: by the third and the last", x, 2, 0, 2);
    }

    private static void simpleTheFirst() {
        DividingHead x = outfit("70;35", "", 1);
        due("9: the first by its number, not its HOLES", x.simple(35), 2);
        Check.row("9: 2 of 70", x, 0, 0, 2);
    }

    private static void simpleOfLeastAndMostWorm() {
        DividingHead x = outfit("70", "", 1);
        due("9: a HOLE", x.simple(70), 1);
        Check.row("9: a HOLE", x, 0, 0, 1);
        due("9: less than a HOLE", x.simple(71), -2);
        due("9: less than a HOLE", x.simple(140), -2);
        x.sets(0, 120);
        due("9: WORM 120 by 400", x.simple(400), 1);
        Check.row("9: 21 of 70", x, 0, 0, 21);
        due("9: WORM 120 by 2", x.simple(2), 1);
        Check.row("9: 60 TURNS", x, 0, 60, 0);
    }

    // ---- 10

    private static void compoundParts() {
        DividingHead x = outfit("10,20", "", 1);
        due("10: n 2, the least", x.compound(2), 6);
        Check.row("10: 4/10 + 2/20", x, 0, 1, 0, 4, 2);
        due("10: n 3", x.compound(3), -2);
        x.sets(0, 20);
        due("10: n 400, the most", x.compound(400), 2);
        Check.row("10: 1/10 - 1/20", x, 0, 1, 0, 1, -1);
        for (int n : OTHERS) {
            due("10: compound(" + n + ")", x.compound(n), NONE);
        }
        Check.row("10: the ROW stays with NONE", x, 0, 1, 0, 1, -1);
    }

    private static void compoundNone() {
        DividingHead x = new DividingHead();
        x.compound(51);
        due("10: none", x.compound(53), -2);
        Check.row("10: the ROW stays with -2", x, 2, 3, 1, 2, -6);
    }

    private static void compoundOfOnePlate() {
        due("10: two of one PLATE", outfit("10,11", "", 19).compound(110), 17);
        due("10: one in each of two PLATES", outfit("10;11", "", 19).compound(110), -2);
        due("10: one alone", outfit("10", "", 1).compound(2), -2);
        DividingHead x = outfit("12;10,11;12", "", 19);
        due("10: two of the second PLATE", x.compound(110), 17);
        Check.row("10: two of the second PLATE", x, 1, 2, 0, 9, -8);
    }

    /** 19/110 and 9/110: a must leave what 9 leaves by 10. */
    private static void compoundHolesOneLessThanAll() {
        DividingHead x = outfit("10,11", "", 19);
        due("10: a is 9 of 10", x.compound(110), 17);
        Check.row("10: 9/10 - 8/11", x, 0, 1, 0, 9, -8);
        x.sets(0, 9);
        due("10: a is 9, b is -9", x.compound(110), 18);
        Check.row("10: 9/10 - 9/11", x, 0, 1, 0, 9, -9);
        x.sets(0, 21);
        due("10: a is 1 of 10", x.compound(110), 2);
        Check.row("10: 1/10 + 1/11", x, 0, 1, 0, 1, 1);
    }

    private static void compoundTurnsOfZero() {
        DividingHead x = outfit("10,11", "", 19);
        // 9/10 + 3/11 is 1 and 19/110, and would be less together; but a TURN back can't be
        due("10: no TURNS below 0", x.compound(110), 17);
        Check.row("10: 9/10 - 8/11", x, 0, 1, 0, 9, -8);
        x.sets(0, 119);
        due("10: TURNS above 0", x.compound(55), 12);
        Check.row("10: 1 and 8/10 + 4/11", x, 0, 1, 1, 8, 4);
    }

    private static void compoundHolesOfTheOtherNotZero() {
        DividingHead x = outfit("10,20", "", 3);
        // 3/10 alone would be 3 together
        due("10: b is not 0", x.compound(10), 4);
        Check.row("10: 2/10 + 2/20", x, 0, 1, 0, 2, 2);
    }

    private static void compoundHolesOfTheOneNotZero() {
        DividingHead x = outfit("10,20", "", 1);
        // 1/20 alone would be 1 together
        due("10: a is 1 at least", x.compound(20), 2);
        Check.row("10: 1/10 - 1/20", x, 0, 1, 0, 1, -1);
    }

    /** 12 by 11 is 10/10 and 1/11, 11 by 10 is 1/10 and 11/11: whole TURNS are no a and no b. */
    private static void compoundHolesOfNoWholeTurn() {
        DividingHead x = outfit("10,11", "", 12);
        due("10: a is 9 of 10 at most", x.compound(11), -2);
        x.sets(0, 11);
        due("10: b is 10 of 11 at most", x.compound(10), -2);
        x.sets(0, 9);
        due("10: b is -10 of 11 at least", x.compound(10), -2);
        x.sets(0, 120);
        due("10: neither, for whole TURNS", x.compound(2), -2);
    }

    private static void compoundLeastTogether() {
        DividingHead x = outfit("10,20", "", 60);
        due("10: a and b make up for one another", x.compound(2), 3);
        Check.row("10: 30 TURNS, 1/10 - 2/20", x, 0, 1, 30, 1, -2);
    }

    private static void compoundFirstByCircles() {
        DividingHead x = outfit("12,18,24", "", 13);
        // 1/18 - 8/24 and a TURN are 9 together too, with less a, but by later CIRCLES
        due("10: of several by the first CIRCLE", x.compound(18), 9);
        Check.row("10: 8/12 + 1/18", x, 0, 1, 0, 8, 1);
    }

    private static void compoundFirstByTheOtherCircle() {
        DividingHead x = outfit("12,15,24", "", 5);
        // 1/12 - 6/24 and a TURN are 7 together too, with less a, but by a later second CIRCLE
        due("10: of several by the second CIRCLE", x.compound(6), 7);
        Check.row("10: 1 and 2/12 - 5/15", x, 0, 1, 1, 2, -5);
        DividingHead y = outfit("10,20,40", "", 3);
        due("10: of several by the first CIRCLE", y.compound(40), 2);
        Check.row("10: 1/10 - 1/40", y, 0, 2, 0, 1, -1);
    }

    private static void compoundThenLeastA() {
        DividingHead x = outfit("12,24,36,48", "", 2);
        // 3/12 - 1/36 is 4 together too
        due("10: then the least a", x.compound(9), 4);
        Check.row("10: 2/12 + 2/36", x, 0, 2, 0, 2, 2);
    }

    private static void compoundThenLeastB() {
        DividingHead x = outfit("10,12,15,20,30,60", "", 3);
        // 1/10 + 6/12, 4/10 + 3/15, 5/10 + 2/20 are 7 together too
        due("10: then the least b", x.compound(5), 7);
        Check.row("10: 1 and 1/10 - 6/12", x, 0, 1, 1, 1, -6);
    }

    private static void compoundOfSeveralPlates() {
        DividingHead x = outfit("10,20;10,20;10,20", "", 1);
        due("10: the first PLATE", x.compound(20), 2);
        Check.row("10: the first PLATE", x, 0, 1, 0, 1, -1);
        Check.plates(x, "10,30;10,20;10,20");
        due("10: the second PLATE", x.compound(20), 2);
        Check.row("10: the second PLATE", x, 2, 3, 0, 1, -1);
    }

    // ---- 11

    private static void differentialParts() {
        DividingHead x = outfit("10", "20,60", 3);
        due("11: n 2, the least: m 3 has no TRAIN", x.differential(2), -2);
        DividingHead y = new DividingHead();
        due("11: n 51", y.differential(51), 50);
        for (int n : OTHERS) {
            due("11: differential(" + n + ")", y.differential(n), NONE);
        }
        Check.row("11: the ROW stays with NONE", y, 0, 0, 12, 3, 4, -1, -1, -1);
        DividingHead z = outfit("10", "20,20", 3);
        due("11: n 2 by m 3", z.differential(2), 3);
        Check.row("11: n 2 by m 3", z, 0, 1, 0, 0, 1, -1, -1, 1);
    }

    private static void differentialNone() {
        DividingHead x = new DividingHead();
        x.differential(51);
        Check.gears(x, "100");
        due("11: one GEAR, no TRAIN", x.differential(51), -2);
        Check.gears(x, "");
        due("11: no GEARS", x.differential(51), -2);
        Check.row("11: the ROW stays with -2", x, 0, 0, 12, 3, 4, -1, -1, -1);
    }

    private static void differentialOneLessIsFirst() {
        DividingHead x = outfit("10", "50,100,50", 4);
        // m 2 by 4/2, m 4 by 4/4
        due("11: n less 1 ahead of n and 1", x.differential(3), 2);
        Check.row("11: n less 1", x, 0, 2, 0, 1, 0, -1, -1, -1);
        Check.gears(x, "50,50");
        due("11: n and 1", x.differential(3), 4);
        Check.row("11: n and 1", x, 0, 1, 0, 0, 1, -1, -1, 1);
    }

    private static void differentialOneMoreAheadOfTwoLess() {
        DividingHead x = outfit("10", "20,100,20", 5);
        // m 3 by 5/3, m 5 by 5/5, m 2 by 10/2
        due("11: n and 1 ahead of n less 2", x.differential(4), 5);
        Check.row("11: n and 1", x, 0, 1, 0, 0, 2, -1, -1, 1);
        Check.gears(x, "20,100");
        due("11: n less 2", x.differential(4), 2);
        Check.row("11: n less 2", x, 0, 2, 5, 1, 0, -1, -1, -1);
    }

    private static void differentialTwoAtLeast() {
        DividingHead x = outfit("10", "20,60", 3);
        // m 1 would have a SIMPLE of three TURNS, and 3 by 1
        due("11: m is not 1", x.differential(2), -2);
        DividingHead y = outfit("10", "20,60", 6);
        due("11: m is 2", y.differential(3), 2);
        Check.row("11: m is 2", y, 0, 3, 0, 1, 0, -1, -1, -1);
        DividingHead z = outfit("10", "20,80", 2);
        // m 1 would be 2 * 2 by 1
        due("11: m is not 1, for n 3", z.differential(3), -2);
    }

    /** Of the numbers near 30 or 31 one CIRCLE of 10 HOLES has a SIMPLE for 10 alone. */
    private static void differentialTwentyLess() {
        DividingHead x = outfit("10", "20,40,42", 1);
        due("11: n less 19, without its TRAIN", x.differential(29), -2);
        due("11: n less 20", x.differential(30), 10);
        Check.row("11: n less 20", x, 0, 0, 1, 1, 0, -1, -1, -1);
        due("11: n less 21", x.differential(31), -2);
        Check.gears(x, "20,38");
        due("11: n less 19", x.differential(29), 10);
        Check.gears(x, "20,42");
        due("11: n less 21, with its TRAIN", x.differential(31), -2);
    }

    /** A CIRCLE of 70 HOLES has a SIMPLE for 70, above 35 for no other. */
    private static void differentialTwentyMore() {
        DividingHead x = outfit("70", "20,70", 1);
        due("11: n and 20", x.differential(50), 70);
        Check.row("11: n and 20", x, 0, 0, 1, 0, 1, -1, -1, 1);
        due("11: n and 21", x.differential(49), -2);
        Check.gears(x, "21,70");
        due("11: n and 21, with its TRAIN", x.differential(49), -2);
        // 38 * 20 by 56 * 50 is 19 by 70
        Check.gears(x, "38,56,20,50");
        due("11: n and 19", x.differential(51), 70);
        Check.row("11: n and 19", x, 0, 0, 1, 0, 1, 2, 3, 1);
    }

    private static void differentialNotItself() {
        DividingHead x = outfit("10", "20,20", 1);
        due("11: m is another number, though n has a SIMPLE", x.differential(10), 5);
        Check.row("11: 5 by 5", x, 0, 0, 2, 0, 1, -1, -1, -1);
    }

    private static void differentialHasSimple() {
        DividingHead x = outfit("10", "20,60", 1);
        due("11: m 3 has a TRAIN, but no SIMPLE", x.differential(4), -2);
        Check.plates(x, "10;12,15");
        due("11: m 3 has a SIMPLE", x.differential(4), 3);
        Check.row("11: its SIMPLE with the first CIRCLE", x, 1, 0, 4, 0, 1, -1, -1, -1);
    }

    private static void differentialAbove400() {
        DividingHead x = outfit("27,54", "54,80", 120);
        due("11: m may be above 400", x.differential(400), 405);
        Check.row("11: 8 of 27, 80 by 54", x, 0, 0, 8, 1, 0, -1, -1, 1);
    }

    private static void differentialFirstTrain() {
        DividingHead x = outfit("10", "100,50,100,50", 4);
        due("11: the first such TRAIN", x.differential(3), 2);
        Check.row("11: the first such TRAIN", x, 0, 2, 0, 0, 1, -1, -1, -1);
    }

    private static void differentialOfFourGears() {
        DividingHead x = outfit("10", "20,30,40,60", 2);
        // n 3: m 2 by 2/2: 20 * 60 by 30 * 40
        due("11: four GEARS", x.differential(3), 2);
        Check.row("11: four GEARS", x, 0, 1, 0, 0, 1, 3, 2, -1);
    }

    // ---- 12

    private static void waysParts() {
        DividingHead x = new DividingHead();
        due("12: 2, the least", x.ways(2) & 1, 1);
        due("12: 400, the most", x.ways(400) & 1, 1);
        due("12: a ROW of one", x.count(8), 1);
        long told = x.row(0);
        for (int n : OTHERS) {
            due("12: ways(" + n + ")", x.ways(n), NONE);
        }
        Check.row("12: the ROW stays", x, told);
    }

    private static void dueWays(String what, DividingHead x, int n, int want, int many) {
        due("12: " + what, x.ways(n), want);
        Check.row("12: " + what, x, many);
    }

    private static void waysOfEachKind() {
        dueWays("no way", outfit("10", "", 1), 3, 0, 0);
        dueWays("SIMPLE alone", outfit("10", "", 1), 2, 1, 1);
        dueWays("COMPOUND alone", outfit("10,11", "", 19), 110, 2, 1);
        dueWays("DIFFERENTIAL alone", outfit("10", "20,40,42", 1), 30, 4, 1);
        dueWays("SIMPLE and COMPOUND", outfit("10,20", "", 1), 2, 3, 2);
        dueWays("SIMPLE and DIFFERENTIAL", outfit("10", "50,50", 2), 2, 5, 2);
        dueWays("COMPOUND and DIFFERENTIAL", new DividingHead(), 51, 6, 2);
        dueWays("all three", outfit("10,20", "50,50", 2), 2, 7, 3);
    }

    // ---- 13

    private static void hardLowAndHigh() {
        DividingHead x = new DividingHead();
        due("13: low is high", x.hard(51, 51), 1);
        Check.row("13: low is high", x, 51, 1, 1, 0);
        due("13: low above high by 1", x.hard(51, 50), NONE);
        due("13: low 1", x.hard(1, 51), NONE);
        due("13: high 401", x.hard(390, 401), NONE);
        due("13: 0", x.hard(0, 0), NONE);
        due("13: below", x.hard(-5, 20), NONE);
        due("13: above", x.hard(401, 401), NONE);
        due("13: as far as can be", x.hard(Integer.MIN_VALUE, Integer.MAX_VALUE), NONE);
        due("13: as far as can be, low above high", x.hard(Integer.MAX_VALUE, Integer.MIN_VALUE), NONE);
        due("13: from the lowest to itself", x.hard(Integer.MIN_VALUE, Integer.MIN_VALUE), NONE);
        due("13: so far that the way wraps round", x.hard(2, Integer.MIN_VALUE), NONE);
        Check.row("13: the ROW stays", x, 51, 1, 1, 0);
        due("13: 2 alone", x.hard(2, 2), 0);
        due("13: 400 alone", x.hard(400, 400), 0);
        due("13: 399 alone", x.hard(399, 399), 1);
    }

    private static void hardSixtyAtMost() {
        DividingHead x = new DividingHead();
        due("13: 59 of them", x.hard(2, 60), 4);
        due("13: 60 of them", x.hard(2, 61), 5);
        Check.row("13: 51 53 57 59 61", x, 51, 2, 5, 0);
        due("13: 61 of them", x.hard(2, 62), NONE);
        due("13: 61 of them, at the end", x.hard(340, 400), NONE);
        Check.row("13: the ROW stays", x, 51, 2, 5, 0);
        due("13: 60 of them, at the end", x.hard(341, 400) >= 0 ? 1 : 0, 1);
        due("13: a ROW of four", x.count(8), 4);
    }

    private static void hardNone() {
        DividingHead x = new DividingHead();
        due("13: none", x.hard(2, 50), 0);
        Check.row("13: NONE without", x, NONE, 0, 0, 0);
    }

    private static void hardAll() {
        DividingHead x = outfit("10", "", 1);
        due("13: all of them", x.hard(11, 70), 60);
        Check.row("13: all of them", x, 11, 0, 0, 60);
        due("13: the last alone", x.hard(10, 11), 1);
        Check.row("13: the last alone", x, 11, 0, 0, 1);
        due("13: the first alone", x.hard(9, 10), 1);
        Check.row("13: the first alone", x, 9, 0, 0, 1);
    }

    private static void hardKinds() {
        DividingHead x = outfit("10,11", "20,40", 19);
        due("13: with a COMPOUND alone", x.hard(110, 110), 1);
        Check.row("13: with a COMPOUND alone", x, 110, 1, 0, 0);
        DividingHead y = outfit("10", "20,40", 1);
        due("13: with a DIFFERENTIAL alone", y.hard(30, 30), 1);
        Check.row("13: with a DIFFERENTIAL alone", y, 30, 0, 1, 0);
        due("13: with neither", y.hard(31, 31), 1);
        Check.row("13: with neither", y, 31, 0, 0, 1);
        due("13: one of these, one of those", y.hard(30, 31), 2);
        Check.row("13: one of these, one of those", y, 30, 0, 1, 1);
        due("13: with a SIMPLE it is none of them", y.hard(10, 10), 0);
        Check.row("13: with a SIMPLE it is none of them", y, NONE, 0, 0, 0);
    }
}
