/** The bounds that promises 14 to 20 name: gears and fractions. */
public final class FractionsBoundsTest {
    private static final int NONE = DividingHead.NONE;
    private static final int FAR = Integer.MAX_VALUE;
    private static final int LOW = Integer.MIN_VALUE;
    /** Neither an upper nor a lower number of 1 .. 400. */
    private static final int[] OTHERS = {LOW, -400, -1, 0, 401, 402, FAR};

    private FractionsBoundsTest() {
    }

    public static void main(String[] args) {
        trainNumbers();
        trainNone();
        trainOfSmallestFraction();
        trainOfTheFirstSlot();
        trainOfMostGears();
        nearestNumbers();
        nearestNoTrains();
        nearestLesserOfTwo();
        nearestThenTheFirst();
        nearestOff();
        nearestOfFour();
        ratiosNoTrains();
        ratiosOfTwoGears();
        ratiosOfTwelveGears();
        leadBounds();
        leadNoTrains();
        leadLesserOfTwo();
        leadLesserOfTwoInAnyOrder();
        leadThenTheFirst();
        leadOfLeastAndMost();
        nearNumbers();
        nearMost();
        nearLesserOfTwo();
        nearZeroAndOne();
        nearFarSteps();
        treeNumbers();
        treeRowOfSixty();
        treeNoSteps();
        angleBounds();
        angleNearZero();
        angleNearAllRound();
        angleLesserOfTwo();
        angleThenTheFirst();
        angleWithoutTrain();
        angleAllOfIt();
        Check.finish();
    }

    private static void due(String call, long got, long want) {
        Check.due(call, got, want);
    }

    private static DividingHead shelf(String gears) {
        DividingHead x = new DividingHead();
        Check.gears(x, gears);
        return x;
    }

    // ---- 14

    private static void trainNumbers() {
        DividingHead x = shelf("20,100,20,80");
        due("14: 1 by 1, the least", x.train(1, 1), 2);
        Check.row("14: 1 by 1", x, 0, 2);
        due("14: 400 by 400, the most", x.train(400, 400), 2);
        Check.row("14: 400 by 400", x, 0, 2);
        due("14: 400 by 20", x.train(400, 20), 4);
        Check.row("14: 400 by 20", x, 1, 0, 3, 2);
        due("14: 20 by 400", x.train(20, 400), 4);
        Check.row("14: 20 by 400", x, 0, 1, 2, 3);
        due("14: 399 by 399", x.train(399, 399), 2);
        due("14: 400 by 1", x.train(400, 1), -2);
        due("14: 1 by 400", x.train(1, 400), -2);
        for (int v : OTHERS) {
            due("14: train(" + v + ", 1)", x.train(v, 1), NONE);
            due("14: train(1, " + v + ")", x.train(1, v), NONE);
            due("14: train of twice " + v, x.train(v, v), NONE);
        }
        Check.row("14: the ROW stays", x, 0, 2);
    }

    private static void trainNone() {
        DividingHead x = shelf("");
        due("14: no GEARS", x.train(1, 1), -2);
        Check.gears(x, "20");
        due("14: one GEAR", x.train(1, 1), -2);
        Check.gears(x, "20,21");
        due("14: two GEARS, not alike", x.train(1, 1), -2);
        due("14: no ROW", x.count(8), 0);
        due("14: two GEARS", x.train(20, 21), 2);
        Check.row("14: two GEARS", x, 0, 1);
        due("14: the other way", x.train(21, 20), 2);
        Check.row("14: the other way", x, 1, 0);
    }

    private static void trainOfSmallestFraction() {
        DividingHead x = shelf("20,60");
        due("14: 1 by 3", x.train(1, 3), 2);
        due("14: 133 by 399", x.train(133, 399), 2);
        due("14: 133 by 400", x.train(133, 400), -2);
    }

    /** 57 by 55 and 63 by 46 fall into slot 0 of the table of ratios. */
    private static void trainOfTheFirstSlot() {
        DividingHead x = shelf("57,55,63,46");
        due("14: 57 by 55", x.train(57, 55), 2);
        Check.row("14: 57 by 55", x, 0, 1);
        due("14: 63 by 46", x.train(63, 46), 2);
        Check.row("14: 63 by 46", x, 2, 3);
        due("14: 12 of two, 6 of four, all unlike", x.ratios(), 18);
    }

    private static void trainOfMostGears() {
        DividingHead x = shelf("20,21,22,23,24,25,26,27,28,29,31,37");
        due("14: the last two", x.train(37, 31), 2);
        Check.row("14: the last two", x, 11, 10);
        Check.gears(x, "20,20,20,20,20,20,20,20,20,40,30,90");
        due("14: the last three", x.train(6, 1), 4);
        Check.row("14: 40 by 20, 90 by 30", x, 9, 0, 11, 10);
        due("14: the other way", x.train(1, 6), 4);
        Check.row("14: 20 by 40, 30 by 90", x, 0, 9, 10, 11);
    }

    // ---- 15

    private static void nearestNumbers() {
        DividingHead x = shelf("20,60");
        due("15: 1 by 1, the least", x.nearest(1, 1), 2);
        Check.row("15: 1 by 3", x, 0, 1, 1, 3, 2, 3);
        due("15: 400 by 400, the most", x.nearest(400, 400), 2);
        Check.row("15: 1 by 3", x, 0, 1, 1, 3, 2, 3);
        due("15: 400 by 1", x.nearest(400, 1), 2);
        Check.row("15: 3", x, 1, 0, 3, 1, 397, 1);
        due("15: 1 by 400", x.nearest(1, 400), 2);
        Check.row("15: 1 by 3", x, 0, 1, 1, 3, 397, 1200);
        for (int v : OTHERS) {
            due("15: nearest(" + v + ", 1)", x.nearest(v, 1), NONE);
            due("15: nearest(1, " + v + ")", x.nearest(1, v), NONE);
        }
        Check.row("15: the ROW stays", x, 0, 1, 1, 3, 397, 1200);
    }

    private static void nearestNoTrains() {
        DividingHead x = shelf("100");
        due("15: one GEAR", x.nearest(1, 1), -2);
        Check.gears(x, "");
        due("15: no GEARS", x.nearest(400, 400), -2);
        due("15: NONE ahead", x.nearest(401, 400), NONE);
        Check.gears(x, "100,20");
        due("15: two GEARS", x.nearest(1, 1), 2);
    }

    /** 1 by 3 and 3 are as near to 5 by 3. */
    private static void nearestLesserOfTwo() {
        DividingHead x = shelf("20,60");
        due("15: of equally near ones the lesser", x.nearest(5, 3), 2);
        Check.row("15: the lesser, which is the first", x, 0, 1, 1, 3, 4, 3);
        Check.gears(x, "60,20");
        due("15: of equally near ones the lesser", x.nearest(5, 3), 2);
        Check.row("15: the lesser, which is not the first", x, 1, 0, 1, 3, 4, 3);
        for (String gears : new String[] {"50,20,70,30", "70,30,50,20", "20,50,30,70"}) {
            DividingHead y = shelf(gears);
            due("15: 7 by 3 and 5 by 2 are as near", y.nearest(29, 12), 2);
            int a = gears.indexOf("70") / 3;
            Check.row("15: 7 by 3 is less, of " + gears, y, a, gears.indexOf("30") / 3, 7, 3, 1, 12);
        }
        due("15: a little more", x.nearest(167, 100), 2);
        Check.row("15: a little more: the greater", x, 0, 1, 3, 1, 133, 100);
        due("15: a little less", x.nearest(166, 100), 2);
        Check.row("15: a little less: the lesser", x, 1, 0, 1, 3, 199, 150);
    }

    private static void nearestThenTheFirst() {
        DividingHead x = shelf("60,20,60,20");
        due("15: then the first", x.nearest(3, 1), 2);
        Check.row("15: 0 1, not 2 3", x, 0, 1, 3, 1, 0, 1);
        due("15: two ahead of four", x.nearest(1, 1), 2);
        Check.row("15: 0 2, not 0 1 3 2", x, 0, 2, 1, 1, 0, 1);
        due("15: four", x.nearest(10, 1), 4);
        Check.row("15: 9", x, 0, 1, 2, 3, 9, 1, 1, 1);
    }

    private static void nearestOff() {
        DividingHead x = shelf("20,60");
        due("15: off by 0", x.nearest(3, 9), 2);
        Check.row("15: off by 0 and 1", x, 0, 1, 1, 3, 0, 1);
        due("15: less than it", x.nearest(1, 2), 2);
        Check.row("15: off by 1 by 6, without sign", x, 0, 1, 1, 3, 1, 6);
        due("15: more than it", x.nearest(1, 6), 2);
        Check.row("15: off by 1 by 6", x, 0, 1, 1, 3, 1, 6);
    }

    private static void nearestOfFour() {
        DividingHead x = shelf("20,60,25,50");
        due("15: four", x.nearest(1, 1), 4);
        Check.row("15: 24 by 25 is nearer than 25 by 24", x, 0, 2, 1, 3, 24, 25, 1, 25);
        due("15: the least of four", x.nearest(1, 10), 4);
        Check.row("15: 1 by 6", x, 0, 1, 2, 3, 1, 6, 1, 15);
        due("15: the greatest of four", x.nearest(10, 1), 4);
        Check.row("15: 6", x, 1, 0, 3, 2, 6, 1, 4, 1);
    }

    // ---- 16

    private static void ratiosNoTrains() {
        DividingHead x = shelf("");
        due("16: no GEARS", x.ratios(), -2);
        Check.gears(x, "50");
        due("16: one GEAR", x.ratios(), -2);
        due("16: no ROW", x.count(8), 0);
    }

    private static void ratiosOfTwoGears() {
        DividingHead x = shelf("50,50");
        due("16: two alike", x.ratios(), 1);
        Check.row("16: the least is the greatest", x, 1, 1, 1, 1);
        Check.gears(x, "20,100");
        due("16: two", x.ratios(), 2);
        Check.row("16: 1 by 5, 5", x, 1, 5, 5, 1);
        Check.gears(x, "45,90,30");
        due("16: three", x.ratios(), 6);
        Check.row("16: 1 by 3 is less than 1 by 2, 3 more than 2", x, 1, 3, 3, 1);
        Check.gears(x, "20,20,100,100");
        // 1, 1 by 5, 5, 1 by 25, 25
        due("16: four", x.ratios(), 5);
        Check.row("16: 1 by 25, 25", x, 1, 25, 25, 1);
    }

    private static void ratiosOfTwelveGears() {
        DividingHead x = shelf("50,50,50,50,50,50,50,50,50,50,50,50");
        due("16: twelve alike", x.ratios(), 1);
        Check.row("16: twelve alike", x, 1, 1, 1, 1);
        // of primes all trains but those that change places are unlike: 132 and 12 * 11 * 10 * 9 by 4
        Check.gears(x, "29,31,37,41,43,47,53,59,61,67,71,73");
        due("16: twelve primes", x.ratios(), 132 + 2970);
        Check.row("16: 29 * 31 by 71 * 73", x, 899, 5183, 5183, 899);
    }

    // ---- 17

    private static void leadBounds() {
        DividingHead x = shelf("20,60");
        due("17: 1, the least", x.lead(1), 2);
        Check.row("17: 2000 by 3", x, 1, 0, 2000, 3, 1997, 3);
        due("17: 20000, the most", x.lead(20000), 2);
        Check.row("17: 6000", x, 0, 1, 6000, 1, 14000, 1);
        due("17: 19999", x.lead(19999), 2);
        due("17: 2", x.lead(2), 2);
        Check.row("17: 2", x, 1, 0, 2000, 3, 1994, 3);
        for (int l : new int[] {0, -1, 20001, LOW, FAR}) {
            due("17: lead(" + l + ")", x.lead(l), NONE);
        }
        Check.row("17: the ROW stays", x, 1, 0, 2000, 3, 1994, 3);
    }

    private static void leadNoTrains() {
        DividingHead x = shelf("20");
        due("17: one GEAR", x.lead(1000), -2);
        Check.gears(x, "");
        due("17: no GEARS", x.lead(1000), -2);
        due("17: NONE ahead", x.lead(0), NONE);
        due("17: no ROW", x.count(8), 0);
    }

    /** WORM 40, PITCH 60: leads 800 and 7200, 4000 is as far from both. */
    private static void leadLesserOfTwo() {
        for (String gears : new String[] {"20,60", "60,20"}) {
            DividingHead x = shelf(gears);
            x.sets(1, 60);
            boolean lessFirst = gears.equals("60,20");
            due("17: of equally near ones", x.lead(4000), 2);
            Check.row("17: the lesser LEAD", x, lessFirst ? 0 : 1, lessFirst ? 1 : 0, 800, 1, 3200, 1);
            due("17: a little more", x.lead(4001), 2);
            Check.row("17: the greater LEAD", x, lessFirst ? 1 : 0, lessFirst ? 0 : 1, 7200, 1, 3199, 1);
            due("17: a little less", x.lead(3999), 2);
            Check.row("17: the lesser LEAD", x, lessFirst ? 0 : 1, lessFirst ? 1 : 0, 800, 1, 3199, 1);
        }
    }

    /** WORM 30, PITCH 10: leads 700 and 750. */
    private static void leadLesserOfTwoInAnyOrder() {
        for (String gears : new String[] {"30,70,20,50", "20,50,30,70", "50,20,70,30"}) {
            DividingHead x = shelf(gears);
            x.sets(0, 30);
            x.sets(1, 10);
            due("17: 700 and 750 are as near", x.lead(725), 2);
            Check.row("17: 700, of " + gears, x, gears.indexOf("30") / 3, gears.indexOf("70") / 3, 700, 1, 25, 1);
        }
    }

    private static void leadThenTheFirst() {
        DividingHead x = shelf("60,20,60,20");
        due("17: two ahead of four", x.lead(2000), 2);
        Check.row("17: 0 2", x, 0, 2, 2000, 1, 0, 1);
        due("17: the first of these", x.lead(6000), 2);
        Check.row("17: 1 0", x, 1, 0, 6000, 1, 0, 1);
        due("17: four", x.lead(18001), 4);
        Check.row("17: four", x, 1, 0, 3, 2, 18000, 1, 1, 1);
    }

    private static void leadOfLeastAndMost() {
        DividingHead x = shelf("20,20,100,100");
        x.sets(0, 120);
        x.sets(1, 100);
        due("17: 12000 by 1 by 25", x.lead(20000), 2);
        Check.row("17: 12000 is nearer than 60000", x, 0, 1, 12000, 1, 8000, 1);
        x.sets(0, 1);
        x.sets(1, 10);
        due("17: 10 by 25", x.lead(1), 4);
        Check.row("17: 2 by 5 is nearer than 2", x, 2, 0, 3, 1, 2, 5, 3, 5);
        due("17: 10 times 25", x.lead(20000), 4);
        Check.row("17: 250", x, 0, 2, 1, 3, 250, 1, 19750, 1);
    }

    // ---- 18

    private static void nearNumbers() {
        DividingHead x = new DividingHead();
        due("18: the least", x.near(1, 1, 1), 0);
        Check.row("18: 1", x, 1, 1, 0, 1);
        due("18: the most", x.near(100000, 100000, 1000), 0);
        Check.row("18: 1", x, 1, 1, 0, 1);
        due("18: p 100000", x.near(100000, 99999, 1), 0);
        Check.row("18: p 100000", x, 1, 1, 1, 99999);
        due("18: q 100000", x.near(50001, 100000, 2), 1);
        Check.row("18: q 100000", x, 1, 2, 1, 100000);
        int[][] others = {{0, 1, 1}, {1, 0, 1}, {1, 1, 0}, {100001, 1, 1}, {1, 100001, 1}, {1, 1, 1001}, {-1, 1, 1},
            {1, -1, 1}, {-1, -1, 1}, {1, 1, -1}, {LOW, 1, 1}, {1, LOW, 1}, {1, 1, LOW}, {FAR, 1, 1}, {1, FAR, 1}, {1, 1, FAR}};
        for (int[] o : others) {
            due("18: near(" + o[0] + ", " + o[1] + ", " + o[2] + ")", x.near(o[0], o[1], o[2]), NONE);
        }
        Check.row("18: the ROW stays", x, 1, 2, 1, 100000);
    }

    private static void nearMost() {
        DividingHead x = new DividingHead();
        due("18: lower number m", x.near(1, 7, 7), 6);
        Check.row("18: lower number m", x, 1, 7, 0, 1);
        due("18: lower number m and 1", x.near(1, 7, 6), 5);
        Check.row("18: 1 by 6", x, 1, 6, 1, 42);
        due("18: 1000", x.near(1, 1000, 1000), 999);
        Check.row("18: 1000", x, 1, 1000, 0, 1);
        due("18: 999", x.near(1, 1000, 999), 998);
        Check.row("18: 999", x, 1, 999, 1, 999000);
        due("18: 1001", x.near(1, 1001, 1000), 999);
        Check.row("18: 1000 for 1001", x, 1, 1000, 1, 1001000);
    }

    private static void nearLesserOfTwo() {
        DividingHead x = new DividingHead();
        due("18: 0 and 1 are as near", x.near(1, 2, 1), 0);
        Check.row("18: 0", x, 0, 1, 1, 2);
        due("18: 1 and 2 are as near", x.near(3, 2, 1), 0);
        Check.row("18: 1", x, 1, 1, 1, 2);
        due("18: 1 by 2 and 1 are as near", x.near(3, 4, 3), 2);
        Check.row("18: but 2 by 3 is nearer", x, 2, 3, 1, 12);
        due("18: 0 and 1 by 2 are as near", x.near(1, 4, 2), 0);
        Check.row("18: 0 is less", x, 0, 1, 1, 4);
        due("18: 1 by 3 and 1 by 2 are as near", x.near(5, 12, 4), 2);
        Check.row("18: 1 by 3 is less", x, 1, 3, 1, 12);
        due("18: 2 by 3 and 3 by 4 are as near", x.near(17, 24, 4), 2);
        Check.row("18: 2 by 3 is less", x, 2, 3, 1, 24);
        due("18: 3 by 4 and 4 by 5: of these the lesser lower number is less", x.near(31, 40, 5), 3);
        Check.row("18: 3 by 4", x, 3, 4, 1, 40);
        due("18: 7 by 3 and 5 by 2 are as near", x.near(29, 12, 3), 4);
        Check.row("18: 7 by 3 is less", x, 7, 3, 1, 12);
        due("18: 1 by 5 and 1 by 4: of these the greater lower number is less", x.near(9, 40, 5), 4);
        Check.row("18: 1 by 5", x, 1, 5, 1, 40);
    }

    private static void nearZeroAndOne() {
        DividingHead x = new DividingHead();
        due("18: 0 takes no STEPS", x.near(1, 100000, 1000), 0);
        Check.row("18: 0 is 0 and 1", x, 0, 1, 1, 100000);
        due("18: 1 takes no STEPS", x.near(7, 7, 5), 0);
        Check.row("18: 1", x, 1, 1, 0, 1);
        // half of 1 by 1000 is as near to both
        due("18: 1 by 2000", x.near(1, 2000, 1000), 0);
        Check.row("18: 0 is less than 1 by 1000", x, 0, 1, 1, 2000);
        due("18: 1 by 1999", x.near(1, 1999, 1000), 999);
        Check.row("18: 1 by 1000 is nearer", x, 1, 1000, 999, 1999000);
    }

    private static void nearFarSteps() {
        DividingHead x = new DividingHead();
        due("18: 100000 by 1", x.near(100000, 1, 1), 99999);
        Check.row("18: 100000 by 1", x, 100000, 1, 0, 1);
        due("18: 100000 by 1 is as near with 1000", x.near(100000, 1, 1000), 99999);
        due("18: 99999 by 2, by halves", x.near(99999, 2, 2), 50000);
        Check.row("18: 99999 by 2", x, 99999, 2, 0, 1);
        due("18: 99999 by 2, by wholes", x.near(99999, 2, 1), 49998);
        Check.row("18: 49999", x, 49999, 1, 1, 2);
    }

    // ---- 19

    private static void treeNumbers() {
        DividingHead x = new DividingHead();
        due("19: the least", x.tree(1, 1), 0);
        due("19: the most", x.tree(400, 400), 0);
        due("19: 400 by 1", x.tree(400, 1), 399);
        due("19: 1 by 400", x.tree(1, 400), 399);
        due("19: 400 by 399", x.tree(400, 399), 399);
        due("19: 399 by 400", x.tree(399, 400), 399);
        for (int v : OTHERS) {
            due("19: tree(" + v + ", 1)", x.tree(v, 1), NONE);
            due("19: tree(1, " + v + ")", x.tree(1, v), NONE);
        }
        due("19: the ROW stays", x.count(8), 60);
        due("19: 399 by 400 is less than 1", x.row(0), 0);
        due("19: and more from there on", x.row(59), 1);
    }

    private static void treeRowOfSixty() {
        DividingHead x = new DividingHead();
        for (int p = 58; p <= 63; p++) {
            due("19: STEPS to " + p, x.tree(p, 1), p - 1);
            due("19: 60 at most, of " + (p - 1), x.count(8), Math.min(60, p - 1));
            due("19: each to more", x.row(Math.min(60, p - 1) - 1), 1);
            due("19: STEPS to 1 by " + p, x.tree(1, p), p - 1);
            due("19: 60 at most, of " + (p - 1), x.count(8), Math.min(60, p - 1));
            due("19: each to less", x.row(Math.min(60, p - 1) - 1), 0);
        }
        // 59 to more, then to less: 60 and 1 by 2 has 61
        due("19: 121 by 2", x.tree(121, 2), 61);
        due("19: the rest is left out", x.count(8), 60);
        due("19: the last that is told", x.row(59), 1);
        due("19: 119 by 2", x.tree(119, 2), 60);
        due("19: the last is told", x.row(59), 0);
    }

    private static void treeNoSteps() {
        DividingHead x = new DividingHead();
        x.simple(7);
        due("19: no STEPS", x.tree(7, 7), 0);
        due("19: an empty ROW", x.count(8), 0);
        Check.holds("19: none such", Twin.rowThrows(x, 0));
    }

    // ---- 20

    private static void angleBounds() {
        DividingHead x = new DividingHead();
        due("20: 1, the least", x.angle(1), 0);
        Check.row("20: 1", x, 0, 0, 0, 1, 1);
        due("20: 2", x.angle(2), 0);
        due("20: 1295998", x.angle(1295998), 0);
        due("20: 1295999, the most", x.angle(1295999), 0);
        Check.row("20: 1295999", x, 0, 40, 0, 1, 1);
        for (int s : new int[] {0, -1, 1296000, 1296001, LOW, FAR}) {
            due("20: angle(" + s + ")", x.angle(s), NONE);
        }
        Check.row("20: the ROW stays", x, 0, 40, 0, 1, 1);
    }

    /** WORM 1 and one CIRCLE of 10: HOLES of 129600 seconds. */
    private static DividingHead coarse(String plates) {
        DividingHead x = new DividingHead();
        Check.plates(x, plates);
        x.sets(0, 1);
        return x;
    }

    private static void angleNearZero() {
        DividingHead x = coarse("10");
        due("20: nothing and a HOLE are as near", x.angle(64800), 0);
        Check.row("20: nothing", x, 0, 0, 0, 64800, 1);
        due("20: more", x.angle(64801), 0);
        Check.row("20: a HOLE", x, 0, 0, 1, 64799, 1);
    }

    private static void angleNearAllRound() {
        DividingHead x = coarse("10");
        due("20: 9 HOLES and all round are as near", x.angle(1231200), 0);
        Check.row("20: 9 HOLES", x, 0, 0, 9, 64800, 1);
        due("20: more", x.angle(1231201), 0);
        Check.row("20: all round", x, 0, 1, 0, 64799, 1);
        due("20: 9 HOLES", x.angle(1166400), 1);
        Check.row("20: 9 HOLES", x, 0, 0, 9, 0, 1);
        due("20: a second more", x.angle(1166401), 0);
        Check.row("20: a second more", x, 0, 0, 9, 1, 1);
        due("20: a second less", x.angle(1166399), 0);
        Check.row("20: a second less", x, 0, 0, 9, 1, 1);
    }

    private static void angleLesserOfTwo() {
        DividingHead x = coarse("10,12");
        due("20: a HOLE of 10 and one of 12 are as near", x.angle(118800), 0);
        Check.row("20: the lesser angle, by the later CIRCLE", x, 1, 0, 1, 10800, 1);
        due("20: more", x.angle(118801), 0);
        Check.row("20: the greater angle", x, 0, 0, 1, 10799, 1);
        DividingHead y = coarse("12;10");
        due("20: the same, the CIRCLES the other way", y.angle(118800), 0);
        Check.row("20: the lesser angle, by the first CIRCLE", y, 0, 0, 1, 10800, 1);
    }

    private static void angleThenTheFirst() {
        DividingHead x = coarse("20;10");
        due("20: 2 of 20, 1 of 10", x.angle(129600), 1);
        Check.row("20: the first CIRCLE", x, 0, 0, 2, 0, 1);
        due("20: near by", x.angle(129601), 0);
        Check.row("20: the first CIRCLE", x, 0, 0, 2, 1, 1);
        due("20: a HOLE of 20", x.angle(64800), 1);
        Check.row("20: a HOLE of 20", x, 0, 0, 1, 0, 1);
        due("20: half a HOLE of 20: nothing and a HOLE", x.angle(32400), 0);
        Check.row("20: nothing, by the first CIRCLE", x, 0, 0, 0, 32400, 1);
    }

    private static void angleWithoutTrain() {
        DividingHead x = coarse("10");
        due("20: a TRAIN is in", x.geared(0, 2, NONE, NONE, 1), 2);
        x.cranks(0, 3, 0);
        due("20: without a TRAIN", x.angle(129600), 1);
        Check.row("20: without a TRAIN, from 0 on", x, 0, 0, 1, 0, 1);
        due("20: the TRAIN stays", x.count(5), 2);
    }

    private static void angleAllOfIt() {
        DividingHead x = new DividingHead();
        due("20: a TURN", x.angle(32400), 1);
        Check.row("20: a TURN", x, 0, 1, 0, 0, 1);
        due("20: 39 TURNS", x.angle(39 * 32400), 1);
        Check.row("20: 39 TURNS", x, 0, 39, 0, 0, 1);
        due("20: half a TURN", x.angle(16200), 1);
        Check.row("20: 8 of 16", x, 1, 0, 8, 0, 1);
        Check.plates(x, "11");
        // 32400 by 11 is 2945 5/11
        due("20: off by less than a second", x.angle(2945), 0);
        Check.row("20: off by 5 by 11", x, 0, 0, 1, 5, 11);
        due("20: off by more", x.angle(2946), 0);
        Check.row("20: off by 6 by 11", x, 0, 0, 1, 6, 11);
        x.sets(0, 120);
        due("20: WORM 120", x.angle(10800 * 119), 1);
        Check.row("20: 119 TURNS", x, 0, 119, 0, 0, 1);
    }
}
