import java.util.NoSuchElementException;

/** For each promise answers worked out by hand: ordinary inputs, the edges of the document, wrong inputs. */
public final class PromisesTest {
    private static final int NONE = DividingHead.NONE;

    public static void main(String[] args) {
        newObject();
        sign();
        end();
        plates();
        gears();
        sets();
        circle();
        gear();
        simple();
        compound();
        differential();
        ways();
        hard();
        train();
        nearest();
        ratios();
        lead();
        near();
        tree();
        angle();
        uses();
        geared();
        ungeared();
        cranks();
        cuts();
        wipes();
        divides();
        mark();
        gaps();
        missing();
        reaches();
        day();
        undo();
        years();
        keepAndAgain();
        count();
        row();
        Check.finish();
    }

    private static void due(String call, long got, long want) {
        Check.due(call, got, want);
    }

    private static long holes(DividingHead x, int k) {
        try {
            return x.circle(k);
        } catch (NoSuchElementException e) {
            return Long.MIN_VALUE;
        }
    }

    private static long teeth(DividingHead x, int k) {
        try {
            return x.gear(k);
        } catch (NoSuchElementException e) {
            return Long.MIN_VALUE;
        }
    }

    private static long told(DividingHead x, int i) {
        try {
            return x.row(i);
        } catch (NoSuchElementException e) {
            return Long.MIN_VALUE;
        }
    }

    // 1
    private static void newObject() {
        DividingHead x = new DividingHead();
        int[] holes = {15, 16, 17, 18, 19, 20, 21, 23, 27, 29, 31, 33, 37, 39, 41, 43, 47, 49};
        int[] teeth = {24, 24, 28, 32, 40, 44, 48, 56, 64, 72, 86, 100};
        int[] counts = {40, 50, 18, 12, 0, 0, 0, 0, 0, 0, 3};
        for (int i = 0; i < counts.length; i++) {
            due("1: count(" + i + ")", x.count(i), counts[i]);
        }
        for (int k = 0; k < holes.length; k++) {
            due("1: circle(" + k + ")", x.circle(k), holes[k]);
            Check.row("1: circle(" + k + ")", x, k / 6);
        }
        for (int k = 0; k < teeth.length; k++) {
            due("1: gear(" + k + ")", x.gear(k), teeth[k]);
        }
        due("1: undo()", x.undo(), NONE);
        due("1: again(0)", x.again(0) ? 1 : 0, 0);
        due("1: NONE", DividingHead.NONE, -1);
    }

    // 2
    private static void sign() {
        DividingHead x = new DividingHead();
        due("2: highest byte first", x.sign('c' << 24 | 't' << 16 | '0' << 8 | '1'), 4);
        due("2", x.sign('0' << 24 | '1' << 16 | 'c' << 8 | 'w'), 8);
        due("2: read in order", x.day(), 4);
        for (int i = 1; i <= 20; i++) {
            due("2: sign " + i, x.sign(0xFFFFFFFF), 4 * i);
        }
        due("2: more than 80", x.sign(0), NONE);
        due("2: refused changes nothing", x.count(9), 80);
        x.end(76);
        due("2: just 80", x.sign(0), 80);
        x.end(77);
        due("2: 81", x.sign(0), NONE);
        due("2: still 77", x.count(9), 77);
        due("2: bytes above 127 are signs", x.day(), -1);
    }

    // 3
    private static void end() {
        DividingHead x = new DividingHead();
        due("3: empty", x.end(0) ? 1 : 0, 1);
        due("3: not so many", x.end(1) ? 1 : 0, 0);
        x.sign('c' << 24 | 'w' << 16 | 'z' << 8 | 'z');
        due("3: below 0", x.end(-1) ? 1 : 0, 0);
        due("3: 5 of 4", x.end(5) ? 1 : 0, 0);
        due("3: stays", x.count(9), 4);
        due("3: all", x.end(4) ? 1 : 0, 1);
        due("3: two", x.end(2) ? 1 : 0, 1);
        due("3: count", x.count(9), 2);
        due("3: the first ones", x.day(), 2);
        due("3: lowest int", x.end(Integer.MIN_VALUE) ? 1 : 0, 0);
    }

    // 4
    private static void plates() {
        DividingHead x = new DividingHead();
        x.uses(3);
        x.geared(0, 2, NONE, NONE, 1);
        x.cranks(1, 0, 0);
        x.cuts();
        due("4: three full plates", Check.plates(x, "10,11,12,13,14,70;10,20,30,40,50,60;65,66,67,68,69,70"), 18);
        due("4: plates", x.count(10), 3);
        due("4: first hole number", holes(x, 0), 10);
        due("4: last of plate 0", holes(x, 5), 70);
        due("4: plate 1 begins anew", holes(x, 6), 10);
        due("4: the circle is 0", x.count(4), 0);
        due("4: no train", x.count(5), 0);
        due("4: no marks", x.count(6), 0);
        due("4: text is empty", x.count(9), 0);
        x.cranks(0, 0, 0);
        Check.row("4: position", x, 0, 1);
        due("4: a few", Check.plates(x, "15;16;17,18"), 4);
        due("4: plate of circle 3", holes(x, 3), 18);
        Check.row("4: circle(3)", x, 2);
        String[] wrong = {"", "x", "1", "1x", "09", "9", "71", "15,", "15;", "15,15", "15,14", "15x16", "15,16;;",
            "10,11,12,13,14,15,16", "10;11;12;13", "15 ", ",15", "15,x", "15;09", "151", "99,", "15;16,", "00", "15,1"};
        int[] at = {0, 0, 1, 1, 1, 1, 1, 3, 3, 4, 4, 2, 6, 17, 8, 2, 0, 3, 4, 2, 1, 6, 1, 4};
        for (int i = 0; i < wrong.length; i++) {
            due("4: plates of " + wrong[i], Check.plates(x, wrong[i]), -1 - at[i]);
            due("4: the text is empty", x.count(9), 0);
        }
        due("4: refused changes nothing", x.count(2), 4);
        Check.row("4: the row stays", x, 2);
    }

    // 5
    private static void gears() {
        DividingHead x = new DividingHead();
        x.uses(3);
        x.geared(0, 2, NONE, NONE, 1);
        x.cranks(1, 0, 0);
        x.cuts();
        due("5: twelve", Check.gears(x, "20,100,99,20,20,21,22,23,24,25,26,27"), 12);
        due("5: gear 1", teeth(x, 1), 100);
        due("5: gear 3, alike", teeth(x, 3), 20);
        due("5: gear 11", teeth(x, 11), 27);
        due("5: the circle is 0", x.count(4), 0);
        due("5: no train", x.count(5), 0);
        due("5: no marks", x.count(6), 0);
        due("5: one", Check.gears(x, "100"), 1);
        due("5: 020 is 20", Check.gears(x, "020,30"), 2);
        due("5: 020", teeth(x, 0), 20);
        String[] wrong = {"2", "x", "2x", "19", "101", "1000", "24,", "24,2", ",24", "24;25", "240", "00", "019", "24,,",
            "2424", "20,20,20,20,20,20,20,20,20,20,20,20,20", "24,101,30", "100,1"};
        int[] at = {1, 0, 1, 1, 2, 3, 3, 4, 0, 2, 2, 1, 2, 3, 2, 35, 5, 5};
        for (int i = 0; i < wrong.length; i++) {
            due("5: gears of " + wrong[i], Check.gears(x, wrong[i]), -1 - at[i]);
            due("5: the text is empty", x.count(9), 0);
        }
        due("5: refused changes nothing", x.count(3), 2);
        due("5: none", Check.gears(x, ""), 0);
        due("5: no gears", x.count(3), 0);
    }

    // 6
    private static void sets() {
        DividingHead x = new DividingHead();
        x.cuts();
        x.uses(2);
        due("6: worm", x.sets(0, 120), 40);
        due("6: machine as at first, marks", x.count(6), 0);
        due("6: machine as at first, circle", x.count(4), 0);
        due("6: it is so", x.sets(0, 120), -2);
        due("6: least", x.sets(0, 1), 120);
        x.cuts();
        due("6: pitch", x.sets(1, 100), 50);
        due("6: machine as at first", x.count(6), 0);
        due("6: pitch again", x.sets(1, 10), 100);
        due("6: pitch is so", x.sets(1, 10), -2);
        int[][] others = {{0, 0}, {0, 121}, {1, 9}, {1, 101}, {2, 40}, {-1, 40}, {0, -1}, {1, Integer.MIN_VALUE}};
        x.cuts();
        for (int[] o : others) {
            due("6: sets(" + o[0] + ", " + o[1] + ")", x.sets(o[0], o[1]), NONE);
        }
        due("6: refused changes nothing", x.count(6), 1);
        due("6: worm stays", x.count(0), 1);
        due("6: pitch stays", x.count(1), 10);
    }

    // 7
    private static void circle() {
        DividingHead x = new DividingHead();
        due("7", holes(x, 12), 37);
        Check.row("7", x, 2);
        due("7: below", holes(x, -1), Long.MIN_VALUE);
        due("7: beyond", holes(x, 18), Long.MIN_VALUE);
        Check.row("7: the row stays", x, 2);
        Check.plates(x, "15;20");
        due("7: fewer", holes(x, 2), Long.MIN_VALUE);
        due("7: last", holes(x, 1), 20);
        Check.row("7: its plate", x, 1);
    }

    // 8
    private static void gear() {
        DividingHead x = new DividingHead();
        x.circle(7);
        due("8", teeth(x, 10), 86);
        Check.row("8: tells no row", x, 1);
        due("8: below", teeth(x, -1), Long.MIN_VALUE);
        due("8: beyond", teeth(x, 12), Long.MIN_VALUE);
        Check.gears(x, "");
        due("8: no gears", teeth(x, 0), Long.MIN_VALUE);
    }

    // 9
    private static void simple() {
        DividingHead x = new DividingHead();
        due("9: 7 parts", x.simple(7), 2);
        Check.row("9: 5 15/21", x, 6, 5, 15);
        due("9: 400 parts: 1/10 turn", x.simple(400), 1);
        Check.row("9: 2 of 20", x, 5, 0, 2);
        due("9: 2 parts", x.simple(2), 18);
        Check.row("9: 20 turns", x, 0, 20, 0);
        due("9: none for 51", x.simple(51), -2);
        Check.row("9: the row stays", x, 0, 20, 0);
        due("9: 1", x.simple(1), NONE);
        due("9: 401", x.simple(401), NONE);
        due("9: lowest", x.simple(Integer.MIN_VALUE), NONE);
        Check.row("9: the row stays", x, 0, 20, 0);
        x.sets(0, 1);
        due("9: worm 1, 3 parts", x.simple(3), 6);
        Check.row("9: 5 of 15", x, 0, 0, 5);
    }

    // 10
    private static void compound() {
        DividingHead x = new DividingHead();
        due("10: 51", x.compound(51), 8);
        Check.row("10: 1 + 2/17 - 6/18", x, 2, 3, 1, 2, -6);
        due("10: 1", x.compound(1), NONE);
        due("10: 401", x.compound(401), NONE);
        due("10: a prime that no circle has", x.compound(53), -2);
        Check.row("10: the row stays", x, 2, 3, 1, 2, -6);
        Check.plates(x, "15;16");
        due("10: one circle a plate", x.compound(40), -2);
        // 40 = t + a/10 + b/20: a = 1, b = -2 is the least; 40 turns
        Check.plates(x, "10,20");
        x.sets(0, 80);
        due("10: a and b make up for one another", x.compound(2), 3);
        Check.row("10: 40 + 1/10 - 2/20", x, 0, 1, 40, 1, -2);
        // 1/2 = a/10 + b/20 with t 0: 4/10 + 2/20, 5/10 + nothing is none, 6/10 - 2/20 is 8
        x.sets(0, 1);
        due("10: least sum", x.compound(2), 6);
        Check.row("10: 4/10 + 2/20", x, 0, 1, 0, 4, 2);
        // 1 by 1 turn as 1/10 .. : worm 2, 2 parts: t 1, 1/10 - 2/20
        x.sets(0, 2);
        due("10: a turn", x.compound(2), 3);
        Check.row("10: 1 + 1/10 - 2/20", x, 0, 1, 1, 1, -2);
        // 10 and 30 twice: the first pair is taken
        Check.plates(x, "10,30;10,30");
        due("10: the first plate", x.compound(2), 4);
        Check.row("10: 1 + 1/10 - 3/30", x, 0, 1, 1, 1, -3);
        // equal sums of several pairs of a plate: the one with the lesser numbers
        Check.plates(x, "10,20,40");
        x.sets(0, 1);
        // 3/20: 1/10 + 1/20 (2)
        x.sets(0, 3);
        due("10: 3/20", x.compound(20), 2);
        Check.row("10: 1/10 + 1/20", x, 0, 1, 0, 1, 1);
    }

    // 11
    private static void differential() {
        DividingHead x = new DividingHead();
        due("11: 51", x.differential(51), 50);
        Check.row("11: 50 and 32/40", x, 0, 0, 12, 3, 4, -1, -1, -1);
        due("11: 1", x.differential(1), NONE);
        due("11: 401", x.differential(401), NONE);
        Check.row("11: the row stays", x, 0, 0, 12, 3, 4, -1, -1, -1);
        // 100 and 50 teeth, worm 4: n 3: m 2 asks for 4/2 = 2, SIMPLE for 2
        Check.gears(x, "50,100");
        x.sets(0, 4);
        due("11: m 2", x.differential(3), 2);
        Check.row("11: 2 turns", x, 0, 2, 0, 1, 0, -1, -1, -1);
        // n 2: m 1 is out, m 3: 4/3; m 0 is out, m 4: 8/4 = 2
        due("11: m is 2 at least", x.differential(2), 4);
        Check.row("11: side 1", x, 0, 1, 0, 1, 0, -1, -1, 1);
        Check.gears(x, "");
        due("11: without gears", x.differential(51), -2);
        // m may lie beyond 400: n 400, worm 100, m 405: 500/405 = 100/81
        DividingHead y = new DividingHead();
        Check.plates(y, "81");
        Check.gears(y, "81,100");
        due("11: plates can't have 81", y.count(2), 18);
        Check.plates(y, "27,54");
        y.sets(0, 120);
        // 120 * 54 / 405 = 16 holes of 54 (8 of 27); ratio 120 * 5 / 405 = 40 / 27 = 80 / 54
        Check.gears(y, "54,80");
        due("11: m above 400", y.differential(400), 405);
        Check.row("11: 8 of 27", y, 0, 0, 8, 1, 0, -1, -1, 1);
        // 10 is the one number near 30 or 31 that has a SIMPLE: off by 20, and by 21
        DividingHead far = new DividingHead();
        Check.plates(far, "10");
        Check.gears(far, "20,40,42");
        far.sets(0, 1);
        due("11: less 20", far.differential(30), 10);
        Check.row("11: less 20", far, 0, 0, 1, 1, 0, -1, -1, -1);
        due("11: less 21 is too far", far.differential(31), -2);
        // four gears, none of two: 4/5 = 2/5 * 2 = (20 * 80) / (50 * 40)
        DividingHead z = new DividingHead();
        Check.gears(z, "21,42,25,50");
        // ratios of two: 1/2 2 21/25 .. ; of four: 1 4 1/4 ..
        due("11: 41", z.differential(41), 40);
        Check.row("11: four gears, ratio 1", z, 0, 1, 0, 0, 1, 3, 2, -1);
    }

    // 12
    private static void ways() {
        DividingHead x = new DividingHead();
        due("12: 51", x.ways(51), 6);
        Check.row("12: 51", x, 2);
        due("12: 40", x.ways(40) & 1, 1);
        due("12: 1", x.ways(1), NONE);
        due("12: 401", x.ways(401), NONE);
        Check.plates(x, "15");
        Check.gears(x, "");
        due("12: none", x.ways(7), 0);
        Check.row("12: none", x, 0);
        due("12: simple alone", x.ways(40), 1);
        Check.row("12: simple alone", x, 1);
    }

    // 13
    private static void hard() {
        DividingHead x = new DividingHead();
        due("13: 51", x.hard(51, 51), 1);
        Check.row("13: 51", x, 51, 1, 1, 0);
        due("13: low above high", x.hard(52, 51), NONE);
        due("13: 61 of them", x.hard(2, 62), NONE);
        due("13: 1", x.hard(1, 5), NONE);
        due("13: 401", x.hard(395, 401), NONE);
        due("13: far", x.hard(Integer.MIN_VALUE, Integer.MAX_VALUE), NONE);
        Check.row("13: the row stays", x, 51, 1, 1, 0);
        due("13: none from 2 to 50", x.hard(2, 50), 0);
        Check.row("13: none", x, -1, 0, 0, 0);
        due("13: 60 of them", x.hard(341, 400) >= 0 ? 1 : 0, 1);
        Check.plates(x, "10");
        Check.gears(x, "");
        x.sets(0, 1);
        // 10 by n is whole for 2, 5, 10
        due("13: one circle", x.hard(2, 11), 7);
        Check.row("13: one circle", x, 3, 0, 0, 7);
    }

    // 14
    private static void train() {
        DividingHead x = new DividingHead();
        due("14: 1", x.train(7, 7), 2);
        Check.row("14: both of 24", x, 0, 1);
        due("14: 86 by 100", x.train(43, 50), 2);
        Check.row("14: 86 by 100", x, 10, 11);
        // 9/16: 24 * 24 / (32 * 32) can't be; first of two: none; (24 * 24)/(..) 1024 = 32 * 32 no; 24*48/(32*64) = 9/16
        due("14: 9/16", x.train(9, 16), 4);
        Check.row("14: 24 by 32, 48 by 64", x, 0, 3, 6, 8);
        due("14: none", x.train(1, 400), -2);
        due("14: a prime", x.train(53, 1), -2);
        due("14: 0", x.train(0, 1), NONE);
        due("14: 0 below", x.train(1, 0), NONE);
        due("14: 401", x.train(1, 401), NONE);
        due("14: 401 above", x.train(401, 1), NONE);
        Check.row("14: the row stays", x, 0, 3, 6, 8);
        Check.gears(x, "50");
        due("14: one gear", x.train(1, 1), -2);
        Check.gears(x, "20,40,60,80");
        due("14: 3/8", x.train(3, 8), 4);
        Check.row("14: 20 by 40, 60 by 80", x, 0, 1, 2, 3);
    }

    // 15
    private static void nearest() {
        DividingHead x = new DividingHead();
        Check.gears(x, "20,60,100");
        // ratios 1/3 1/5 3 3/5 5 5/3
        due("15: 1", x.nearest(1, 1), 2);
        Check.row("15: 3/5 is off 2/5, 5/3 2/3", x, 1, 2, 3, 5, 2, 5);
        due("15: 4", x.nearest(4, 1), 2);
        Check.row("15: 3 and 5 are as near, 3 is less", x, 1, 0, 3, 1, 1, 1);
        due("15: 1/400", x.nearest(1, 400), 2);
        Check.row("15: 1/5", x, 0, 2, 1, 5, 79, 400);
        due("15: 400", x.nearest(400, 1), 2);
        Check.row("15: 5", x, 2, 0, 5, 1, 395, 1);
        due("15: exact", x.nearest(10, 6), 2);
        Check.row("15: 5/3", x, 2, 1, 5, 3, 0, 1);
        Check.gears(x, "100,20,60");
        due("15: the lesser of 5 and 3, though it comes later", x.nearest(4, 1), 2);
        Check.row("15: 3", x, 2, 1, 3, 1, 1, 1);
        Check.gears(x, "20,60,100");
        due("15: exact", x.nearest(10, 6), 2);
        due("15: 0", x.nearest(0, 1), NONE);
        due("15: 401", x.nearest(1, 401), NONE);
        Check.row("15: the row stays", x, 2, 1, 5, 3, 0, 1);
        Check.gears(x, "20,20,30");
        due("15: alike: the first", x.nearest(3, 2), 2);
        Check.row("15: 30 by the first 20", x, 2, 0, 3, 2, 0, 1);
        Check.gears(x, "99");
        due("15: none", x.nearest(1, 1), -2);
        due("15: NONE ahead of -2", x.nearest(0, 1), NONE);
        Check.gears(x, "20,40,60,80");
        due("15: four", x.nearest(8, 3), 4);
        // of equal ratio 8/3 = 40 * 80 / (20 * 60), the first: 40 20 80 60
        Check.row("15: four", x, 1, 0, 3, 2, 8, 3, 0, 1);
    }

    // 16
    private static void ratios() {
        DividingHead x = new DividingHead();
        Check.gears(x, "20,60,100");
        due("16", x.ratios(), 6);
        Check.row("16", x, 1, 5, 5, 1);
        Check.gears(x, "50,50");
        due("16: alike", x.ratios(), 1);
        Check.row("16: alike", x, 1, 1, 1, 1);
        // of two: 1/2 2 1/3 3 1/4 4 2/3 3/2 3/4 4/3, of four: 3/8 8/3, 2/3 3/2, 1/6 6
        Check.gears(x, "20,40,60,80");
        due("16: with fours", x.ratios(), 14);
        Check.row("16: 1/6 and 6", x, 1, 6, 6, 1);
        Check.gears(x, "50");
        due("16: none", x.ratios(), -2);
        Check.row("16: the row stays", x, 1, 6, 6, 1);
    }

    // 17
    private static void lead() {
        DividingHead x = new DividingHead();
        Check.gears(x, "20,60,100");
        // leads 2000 by 1/3 1/5 3 3/5 5 5/3: 6000 10000 2000/3 10000/3 400 1200
        due("17: 1000", x.lead(1000), 2);
        Check.row("17: 1200", x, 2, 1, 1200, 1, 200, 1);
        due("17: 800", x.lead(800), 2);
        Check.row("17: 2000/3", x, 1, 0, 2000, 3, 400, 3);
        due("17: 8000: 6000 is as near as 10000", x.lead(8000), 2);
        Check.row("17: 6000", x, 0, 1, 6000, 1, 2000, 1);
        Check.gears(x, "20,100,60");
        due("17: the lesser one comes later", x.lead(8000), 2);
        Check.row("17: 6000", x, 0, 2, 6000, 1, 2000, 1);
        Check.gears(x, "20,60,100");
        due("17: 20000", x.lead(20000), 2);
        Check.row("17: 10000", x, 0, 2, 10000, 1, 10000, 1);
        due("17: 1", x.lead(1), 2);
        Check.row("17: 400", x, 2, 0, 400, 1, 399, 1);
        due("17: 0", x.lead(0), NONE);
        due("17: 20001", x.lead(20001), NONE);
        Check.row("17: the row stays", x, 2, 0, 400, 1, 399, 1);
        x.sets(1, 100);
        due("17: with the pitch", x.lead(800), 2);
        Check.row("17: twice as much", x, 2, 0, 800, 1, 0, 1);
        Check.gears(x, "");
        due("17: none", x.lead(800), -2);
    }

    // 18
    private static void near() {
        DividingHead x = new DividingHead();
        due("18: 355/113 by 10", x.near(355, 113, 10), 9);
        Check.row("18: 22/7", x, 22, 7, 1, 791);
        due("18: 1/2 by 1: 0 and 1 are as near", x.near(1, 2, 1), 0);
        Check.row("18: 0", x, 0, 1, 1, 2);
        due("18: 3/2 by 1", x.near(3, 2, 1), 0);
        Check.row("18: 1 is less", x, 1, 1, 1, 2);
        due("18: 3/4 by 2: 1/2 and 1 are as near", x.near(3, 4, 2), 1);
        Check.row("18: 1/2 is less", x, 1, 2, 1, 4);
        due("18: 5/6 by 3: 2/3 and 1 are as near", x.near(5, 6, 3), 2);
        Check.row("18: 2/3 is less", x, 2, 3, 1, 6);
        due("18: 11/10 by 5: as near to both of 1 and 6/5", x.near(11, 10, 5), 0);
        Check.row("18: 1 is less than 6/5", x, 1, 1, 1, 10);
        due("18: itself, not smallest", x.near(50, 100, 1000), 1);
        Check.row("18: 1/2", x, 1, 2, 0, 1);
        due("18: many steps", x.near(100000, 1, 1), 99999);
        Check.row("18: 100000", x, 100000, 1, 0, 1);
        due("18: near 0", x.near(1, 100000, 1000), 0);
        Check.row("18: 0 is nearer than 1/1000", x, 0, 1, 1, 100000);
        // 99999/100000: 1 is off 1/100000, 999/1000 by 99/100000
        due("18: near 1", x.near(99999, 100000, 1000), 0);
        Check.row("18: 1", x, 1, 1, 1, 100000);
        int[][] others = {{0, 1, 1}, {1, 0, 1}, {1, 1, 0}, {100001, 1, 1}, {1, 100001, 1}, {1, 1, 1001}, {-1, 1, 1}};
        for (int[] o : others) {
            due("18: near(" + o[0] + ", " + o[1] + ", " + o[2] + ")", x.near(o[0], o[1], o[2]), NONE);
        }
        Check.row("18: the row stays", x, 1, 1, 1, 100000);
    }

    // 19
    private static void tree() {
        DividingHead x = new DividingHead();
        due("19: 1", x.tree(400, 400), 0);
        Check.row("19: none", x);
        // 1 .. 1/2 .. 2/3 .. 3/5 is between 1/2 and 2/3
        due("19: 3/5", x.tree(6, 10), 3);
        Check.row("19: less, more, less", x, 0, 1, 0);
        due("19: 22/7", x.tree(22, 7), 9);
        Check.row("19: 3 more, then less: 4, 7/2, 10/3 .. 22/7", x, 1, 1, 1, 0, 0, 0, 0, 0, 0);
        due("19: 61", x.tree(62, 1), 61);
        due("19: 60 at most", x.count(8), 60);
        due("19: the last", told(x, 59), 1);
        due("19: 399", x.tree(1, 400), 399);
        due("19: less", told(x, 59), 0);
        int[][] others = {{0, 1}, {1, 0}, {401, 1}, {1, 401}};
        for (int[] o : others) {
            due("19: tree(" + o[0] + ", " + o[1] + ")", x.tree(o[0], o[1]), NONE);
        }
        due("19: the row stays", x.count(8), 60);
    }

    // 20
    private static void angle() {
        DividingHead x = new DividingHead();
        due("20: one turn", x.angle(32400), 1);
        Check.row("20: one turn", x, 0, 1, 0, 0, 1);
        due("20: a hole of 16: 2025", x.angle(2025), 1);
        Check.row("20: a hole of 16", x, 1, 0, 1, 0, 1);
        due("20: 1", x.angle(1), 0);
        Check.row("20: nothing is nearest", x, 0, 0, 0, 1, 1);
        due("20: nearly all round", x.angle(1295999), 0);
        Check.row("20: 40 turns", x, 0, 40, 0, 1, 1);
        Check.plates(x, "10");
        x.sets(0, 1);
        due("20: as near to 0 as to 129600", x.angle(64800), 0);
        Check.row("20: the lesser", x, 0, 0, 0, 64800, 1);
        due("20: just more", x.angle(64801), 0);
        Check.row("20: the greater", x, 0, 0, 1, 64799, 1);
        Check.plates(x, "10,12");
        due("20: 118800: 129600 and 108000 are as near", x.angle(118800), 0);
        Check.row("20: the lesser, though its circle comes later", x, 1, 0, 1, 10800, 1);
        Check.plates(x, "11;10;70");
        // one hole of 11 is 117818 2/11; 10: 129600; 70: 18514 2/7, 6 of them 111085 5/7, 7 of them 129600
        due("20: 129600", x.angle(129600), 1);
        Check.row("20: the first circle", x, 1, 0, 1, 0, 1);
        due("20: 117818", x.angle(117818), 0);
        Check.row("20: off by 2/11", x, 0, 0, 1, 2, 11);
        x.geared(0, 2, NONE, NONE, 1);
        due("20: without a train", x.angle(129600), 1);
        due("20: 0", x.angle(0), NONE);
        due("20: all round", x.angle(1296000), NONE);
        due("20: below", x.angle(Integer.MIN_VALUE), NONE);
        Check.row("20: the row stays", x, 1, 0, 1, 0, 1);
    }

    // 21
    private static void uses() {
        DividingHead x = new DividingHead();
        x.circle(6);
        due("21: it has", x.uses(0), -2);
        due("21: none such", x.uses(18), NONE);
        due("21: below", x.uses(-1), NONE);
        due("21: not done", x.count(7), 0);
        due("21: 17", x.uses(17), 0);
        due("21: back", x.uses(0), 17);
        due("21: done", x.count(7), 2);
        due("21: count(4)", x.count(4), 0);
        Check.row("21: no row", x, 1);
    }

    // 22
    private static void geared() {
        DividingHead x = new DividingHead();
        due("22: two", x.geared(3, 4, NONE, NONE, 1), 2);
        Check.row("22: 4/5", x, 4, 5);
        due("22: four", x.geared(3, 4, 0, 6, -1), 4);
        Check.row("22: 2/5", x, 2, 5);
        int[][] others = {{0, 0, -1, -1, 1}, {0, 12, -1, -1, 1}, {-1, 0, -1, -1, 1}, {0, 1, 2, -1, 1}, {0, 1, -1, 2, 1},
            {0, 1, 2, 0, 1}, {0, 1, 1, 2, 1}, {0, 1, 2, 2, 1}, {0, 1, 2, 1, 1}, {0, 1, 0, 2, 1}, {0, 1, 2, 3, 0},
            {0, 1, 2, 3, 2}, {0, 1, -2, -2, 1}, {0, 1, 12, 2, 1}};
        for (int[] o : others) {
            due("22: geared of " + java.util.Arrays.toString(o), x.geared(o[0], o[1], o[2], o[3], o[4]), NONE);
        }
        Check.row("22: the row stays", x, 2, 5);
        due("22: the train stays", x.count(5), 4);
        Check.gears(x, "20,100,50,25");
        x.sets(0, 5);
        due("22: ratio is the worm", x.geared(1, 0, NONE, NONE, 1), -4);
        due("22: the other side", x.geared(1, 0, NONE, NONE, -1), 2);
        x.sets(0, 10);
        due("22: four, ratio is the worm", x.geared(1, 0, 2, 3, 1), -4);
        due("22: NONE ahead of -4", x.geared(1, 0, 2, 3, 3), NONE);
        due("22: none was put in", x.count(5), 0);
        due("22: four", x.geared(2, 0, 1, 3, -1), 4);
        Check.row("22: 10", x, 10, 1);
    }

    // 23
    private static void ungeared() {
        DividingHead x = new DividingHead();
        due("23: none", x.ungeared(), -2);
        due("23: not done", x.count(7), 0);
        x.geared(3, 4, 0, 6, -1);
        due("23: four", x.ungeared(), 4);
        due("23: out", x.count(5), 0);
        due("23: none", x.ungeared(), -2);
        x.geared(3, 4, NONE, NONE, 1);
        due("23: two", x.ungeared(), 2);
        x.cranks(1, 0, 0);
        Check.row("23: by the worm alone", x, 1, 40);
    }

    // 24
    private static void cranks() {
        DividingHead x = new DividingHead();
        due("24: a turn", x.cranks(1, 0, 0), 0);
        Check.row("24: 1/40", x, 1, 40);
        due("24: back over 0", x.cranks(2, 0, 1), 0);
        Check.row("24: 39/40", x, 39, 40);
        due("24: on over 0", x.cranks(99, 14, 0), 0);
        // 39/40 + (99 + 14/15)/40 = 585/600 + 1499/600 = 2084/600 = 3 + 284/600
        Check.row("24: all round", x, 71, 150);
        int[][] others = {{-1, 0, 0}, {100, 0, 0}, {0, -1, 0}, {0, 15, 0}, {0, 0, 2}, {0, 0, -1}};
        int done = x.count(7);
        for (int[] o : others) {
            due("24: cranks of " + java.util.Arrays.toString(o), x.cranks(o[0], o[1], o[2]), NONE);
        }
        Check.row("24: the row stays", x, 71, 150);
        due("24: not done", x.count(7), done);
        due("24: nothing is a step too", x.cranks(0, 0, 0), 0);
        due("24: done", x.count(7), done + 1);
        x.wipes();
        x.geared(3, 4, NONE, NONE, 1);
        // 1 by (40 - 4/5) = 5/196
        due("24: with a train", x.cranks(1, 0, 0), 0);
        Check.row("24: 5/196", x, 5, 196);
        x.wipes();
        x.geared(3, 4, NONE, NONE, -1);
        due("24: with a train, the other side", x.cranks(1, 0, 0), 0);
        Check.row("24: 5/204", x, 5, 204);
        x.sets(0, 1);
        x.geared(11, 4, NONE, NONE, 1);
        // 1 - 5/2 = -3/2: the work goes back by 2/3 with a turn
        due("24: the work goes back", x.cranks(1, 0, 0), 0);
        Check.row("24: 1/3", x, 1, 3);
        due("24: and on", x.cranks(2, 0, 1), 0);
        Check.row("24: 1/3 + 4/3", x, 2, 3);
        lowerNumberAbove();
        lowerNumberJustAllowed();
    }

    private static void lowerNumberAbove() {
        DividingHead x = new DividingHead();
        x.sets(0, 1);
        int[] circles = {16, 15, 14, 12, 10};
        for (int k : circles) {
            x.uses(k);
            due("24: a hole of circle " + k, x.cranks(0, 1, 0), 0);
        }
        long lower = 47L * 43 * 41 * 37 * 31;
        due("24: the lower number", told(x, 1), lower);
        x.uses(9);
        int done = x.count(7);
        due("24: 29 times that is above 10^9", x.cranks(0, 1, 0), -4);
        due("24: NONE ahead of -4", x.cranks(0, 29, 0), NONE);
        due("24: the row stays", told(x, 1), lower);
        due("24: not done", x.count(7), done);
        due("24: the position stays", x.undo(), 6);
        due("24: the circle is that before", x.count(4), 10);
        x.uses(9);
        due("24: whole turns can be", x.cranks(3, 0, 0), 0);
    }

    /** 8 + (31 * 67) / (97 * 98) is 78125 by 9506, times 50 holes: 5^9; 64 holes by 8: 2^9. */
    private static void lowerNumberJustAllowed() {
        DividingHead x = new DividingHead();
        Check.plates(x, "50,64");
        Check.gears(x, "31,97,67,98");
        x.sets(0, 8);
        x.geared(0, 1, 2, 3, -1);
        due("24: 5^9", x.cranks(0, 1, 0), 0);
        due("24: 5^9", told(x, 1), 1953125);
        x.ungeared();
        x.uses(1);
        due("24: just 10^9", x.cranks(0, 1, 0), 0);
        due("24: just 10^9", told(x, 1), 1000000000);
    }

    // 25
    private static void cuts() {
        DividingHead x = new DividingHead();
        due("25: first", x.cuts(), 1);
        due("25: it is one", x.cuts(), -2);
        due("25: done once", x.count(7), 1);
        x.divides(60, 0);
        due("25: 60, and it is one", x.cuts(), -2);
        x.uses(12);
        x.cranks(0, 1, 0);
        int done = x.count(7);
        due("25: there are 60", x.cuts(), -3);
        due("25: not done", x.count(7), done);
        due("25: still 60", x.count(6), 60);
    }

    // 26
    private static void wipes() {
        DividingHead x = new DividingHead();
        due("26: none", x.wipes(), 0);
        due("26: done all the same", x.count(7), 1);
        x.uses(3);
        x.geared(3, 4, NONE, NONE, 1);
        x.cuts();
        x.cranks(1, 1, 0);
        x.cuts();
        due("26: two", x.wipes(), 2);
        due("26: gone", x.count(6), 0);
        due("26: the circle stays", x.count(4), 3);
        due("26: the train stays", x.count(5), 2);
        x.cranks(0, 0, 0);
        Check.row("26: position", x, 0, 1);
    }

    // 27
    private static void divides() {
        DividingHead x = new DividingHead();
        x.geared(3, 4, NONE, NONE, 1);
        x.cranks(1, 1, 0);
        x.cuts();
        int done = x.count(7);
        due("27: no such way", x.divides(51, 0), -2);
        int[][] others = {{1, 0}, {61, 0}, {5, 3}, {5, -1}, {Integer.MAX_VALUE, 1}};
        for (int[] o : others) {
            due("27: divides of " + java.util.Arrays.toString(o), x.divides(o[0], o[1]), NONE);
        }
        due("27: nothing is done", x.count(6), 1);
        due("27: the train stays", x.count(5), 2);
        due("27: not done", x.count(7), done);
        for (int n = 2; n <= 60; n++) {
            for (int way = 0; way < 3; way++) {
                boolean has = (x.ways(n) >> way & 1) == 1;
                due("27: divides(" + n + ", " + way + ")", x.divides(n, way), has ? n : -2);
                if (has) {
                    Check.row("27: divides(" + n + ", " + way + ")", x, 1, 1);
                    due("27: all marks", x.missing(n), 0);
                    due("27: a train", x.count(5) > 0 ? 1 : 0, way == 2 ? 1 : 0);
                }
            }
        }
        x.divides(51, 1);
        due("27: the circle used last", x.count(4), 3);
        x.divides(51, 2);
        due("27: the circle of the near number", x.count(4), 0);
        x.divides(7, 0);
        due("27: the circle", x.count(4), 6);
        due("27: no train", x.count(5), 0);
        due("27: undone as one", x.undo(), 6);
        due("27: as before", x.count(6), 51);
        due("27: with its train", x.count(5), 2);
    }

    // 28
    private static void mark() {
        DividingHead x = new DividingHead();
        due("28: none", x.mark(0), NONE);
        x.cranks(30, 0, 0);
        x.cuts();
        due("28: one alone", x.mark(0), 0);
        Check.row("28: one alone", x, 3, 4, 1, 1);
        x.cranks(20, 0, 0);
        x.cuts();
        due("28: the first from 0 on", x.mark(0), 0);
        Check.row("28: 1/4", x, 1, 4, 1, 2);
        due("28: the last", x.mark(1), 0);
        Check.row("28: all round", x, 3, 4, 1, 2);
        x.cranks(10, 1, 0);
        x.cuts();
        due("28: between", x.mark(1), 0);
        // 1/4 + 10/40 + 1/600 = 301/600
        Check.row("28: between", x, 301, 600, 149, 600);
        due("28: beyond", x.mark(3), NONE);
        due("28: below", x.mark(-1), NONE);
        Check.row("28: the row stays", x, 301, 600, 149, 600);
    }

    // 29
    private static void gaps() {
        DividingHead x = new DividingHead();
        due("29: none", x.gaps(), -2);
        due("29: no row", x.count(8), 0);
        x.cuts();
        due("29: one", x.gaps(), 1);
        Check.row("29: one", x, 1, 1, 1, 1);
        x.cranks(10, 0, 0);
        x.cuts();
        x.cranks(10, 0, 0);
        x.cuts();
        due("29: 1/4 1/4 1/2", x.gaps(), 2);
        Check.row("29", x, 1, 4, 1, 2);
        x.cranks(10, 0, 0);
        x.cuts();
        due("29: four", x.gaps(), 1);
        Check.row("29: four", x, 1, 4, 1, 4);
        nearlyEqualGaps();
    }

    /** Gaps with lower numbers near 10^18: a product of two would run over. */
    private static void nearlyEqualGaps() {
        DividingHead x = new DividingHead();
        PlainHead y = new PlainHead();
        int[][] turns = {{16, 1}, {15, 2}, {14, 3}, {12, 5}, {17, 7}, {13, 1}, {11, 4}, {9, 3}};
        for (int[] t : turns) {
            x.uses(t[0]);
            y.uses(t[0]);
            x.geared(10, 11, 5, 7, t[1] % 2 == 0 ? 1 : -1);
            y.geared(10, 11, 5, 7, t[1] % 2 == 0 ? 1 : -1);
            due("29: cranks", x.cranks(t[1], t[1], 0), y.cranks(t[1], t[1], 0));
            due("29: cuts", x.cuts(), y.cuts());
            due("29: gaps", x.gaps(), y.gaps());
            for (int i = 0; i < 4; i++) {
                due("29: row(" + i + ")", told(x, i), y.row(i));
            }
        }
    }

    // 30
    private static void missing() {
        DividingHead x = new DividingHead();
        due("30: no marks", x.missing(1), 1);
        Check.row("30: no marks", x, 0, 0);
        x.cuts();
        due("30: 0 is one", x.missing(1), 0);
        Check.row("30: nothing missing", x, 0);
        x.cranks(20, 0, 0);
        x.cuts();
        due("30: of 4", x.missing(4), 2);
        Check.row("30: 1/4 is the first", x, 1, 0);
        due("30: of 3", x.missing(3), 2);
        Check.row("30: 1/2 is none of these", x, 1, 1);
        due("30: of 400", x.missing(400), 398);
        Check.row("30: of 400", x, 1, 0);
        x.cranks(10, 0, 1);
        x.cuts();
        due("30: of 4", x.missing(4), 1);
        Check.row("30: 3 of 4", x, 3, 0);
        due("30: of 8", x.missing(8), 5);
        Check.row("30: 1 of 8", x, 1, 0);
        due("30: of 2", x.missing(2), 0);
        Check.row("30: 1/4 is none of these", x, 1);
        x.wipes();
        x.cranks(20, 0, 0);
        x.cuts();
        due("30: 0 is missing", x.missing(4), 3);
        Check.row("30: 0 is missing", x, 0, 0);
        due("30: 0", x.missing(0), NONE);
        due("30: 401", x.missing(401), NONE);
        due("30: below", x.missing(-5), NONE);
        Check.row("30: the row stays", x, 0, 0);
    }

    // 31
    private static void reaches() {
        DividingHead x = new DividingHead();
        due("31: no marks", x.reaches(), -2);
        x.cuts();
        due("31: all round", x.reaches(), 600);
        Check.row("31: the mark itself", x, 0);
        x.cranks(0, 1, 0);
        x.cuts();
        x.cranks(0, 3, 1);
        due("31: two holes", x.reaches(), 2);
        Check.row("31: mark 0", x, 0);
        x.cranks(0, 2, 0);
        due("31: one hole", x.reaches(), 1);
        Check.row("31: mark 1", x, 1);
        x.uses(1);
        due("31: by holes of its own circle", x.reaches(), 640);
        x.wipes();
        x.uses(16);
        x.cranks(0, 1, 0);
        x.cuts();
        x.cranks(0, 1, 1);
        x.uses(0);
        due("31: never", x.reaches(), -2);
        Check.row("31: the row stays that of cranks()", x, 0, 1);
        x.sets(0, 1);
        x.geared(11, 4, NONE, NONE, 1);
        x.cuts();
        // 1 - 5/2 = -3/2: a hole of 15 leads back by 2/45
        x.cranks(0, 1, 0);
        Check.row("31: back by 2/45", x, 43, 45);
        due("31: 44 more", x.reaches(), 44);
        x.uses(2);
        due("31: by 17: steps of 2/51", x.reaches(), -2);
        beyondTwentyThousand();
    }

    private static void beyondTwentyThousand() {
        DividingHead x = new DividingHead();
        Check.plates(x, "70");
        Check.gears(x, "20,97,89,100");
        x.sets(0, 120);
        x.geared(1, 2, NONE, NONE, 1);
        x.cuts();
        // 120 - 97/89 = 10583/89: all round after 70 * 10583 holes
        due("31: not by 20000", x.reaches(), -2);
        x.cranks(99, 0, 1);
        x.cranks(99, 0, 1);
        x.cranks(87, 50, 1);
        due("31: 20000", x.reaches(), 20000);
        Check.row("31: mark 0", x, 0);
        x.cranks(0, 1, 1);
        due("31: 20001", x.reaches(), -2);
        x.cranks(0, 2, 0);
        due("31: 19999", x.reaches(), 19999);
    }

    // 32
    private static void day() {
        DividingHead x = new DividingHead();
        due("32: empty", Check.day(x, ""), 0);
        Check.row("32: empty", x, 0, 0);
        due("32: not to be undone", x.count(7), 0);
        due("32: all kinds", Check.day(x, "cu06t0515cb0515wg0304-og0304+"), 9);
        Check.row("32: all kinds, o and g", x, 0, 0);
        due("32: as one", x.count(7), 1);
        due("32: the circle", x.count(4), 6);
        due("32: the train", x.count(5), 2);
        x.cranks(1, 0, 0);
        Check.row("32: side 1", x, 5, 196);
        due("32: till one can't be", Check.day(x, "ccw"), 1);
        Check.row("32: till one can't be", x, 1, 1);
        due("32: a hole too many", Check.day(x, "wt0021"), 1);
        Check.row("32: a hole too many", x, 1, 0);
        int done = x.count(7);
        due("32: the first can't be", Check.day(x, "u06c"), 0);
        Check.row("32: the first can't be", x, 1, 0);
        due("32: none such", Check.day(x, "u99"), 0);
        due("32: gears alike", Check.day(x, "g0303+"), 0);
        due("32: not to be undone", x.count(7), done);
        String[] wrong = {"x", "cx", "u", "u0", "ux", "u0x", "t000", "t0000x", "g0001", "g0001x", "g00x", "b", "c,", "c c",
            "b00000", "U00", "cwog0102+g0102-t01x1", "ccccu1", "\0", "\377"};
        int[] at = {0, 1, 1, 2, 1, 2, 4, 5, 5, 5, 3, 1, 1, 1, 5, 0, 18, 6, 0, 0};
        for (int i = 0; i < wrong.length; i++) {
            due("32: day of " + wrong[i], Check.day(x, wrong[i]), -1 - at[i]);
            due("32: the text is empty", x.count(9), 0);
        }
        Check.row("32: the row stays", x, 1, 0);
        due("32: nothing is done", x.count(7), done);
        DividingHead y = new DividingHead();
        due("32: side -1", Check.day(y, "g0304-t0100"), 2);
        y.cranks(0, 0, 0);
        Check.row("32: side -1", y, 5, 204);
        StringBuilder long80 = new StringBuilder();
        for (int i = 0; i < 80; i++) {
            long80.append('w');
        }
        due("32: 80 acts", Check.day(y, long80.toString()), 80);
    }

    // 33
    private static void undo() {
        DividingHead x = new DividingHead();
        due("33: none", x.undo(), NONE);
        Check.plates(x, "15,20");
        Check.gears(x, "30,40,50,60");
        x.sets(1, 60);
        x.uses(1);
        x.geared(0, 1, 2, 3, 1);
        x.cranks(1, 1, 0);
        x.cuts();
        due("33: seven", x.count(7), 7);
        x.circle(1);
        due("33: the mark", x.undo(), 6);
        due("33: no mark", x.count(6), 0);
        due("33: cranks", x.undo(), 5);
        due("33: it can be cut at 0", x.cuts(), 1);
        due("33: mark 0", x.mark(0), 0);
        Check.row("33: mark 0", x, 0, 1, 1, 1);
        due("33: that cut", x.undo(), 5);
        Check.row("33: the row stays", x, 0, 1, 1, 1);
        due("33: geared", x.undo(), 4);
        due("33: no train", x.count(5), 0);
        due("33: uses", x.undo(), 3);
        due("33: circle 0", x.count(4), 0);
        due("33: sets", x.undo(), 2);
        due("33: pitch", x.count(1), 50);
        due("33: gears", x.undo(), 1);
        due("33: 12 gears", x.count(3), 12);
        due("33: first gear", teeth(x, 0), 24);
        due("33: plates", x.undo(), 0);
        due("33: 18 circles", x.count(2), 18);
        due("33: 3 plates", x.count(10), 3);
        due("33: none", x.undo(), NONE);
        for (int i = 1; i <= 9; i++) {
            due("33: uses(" + i + ")", x.uses(i), i - 1);
        }
        for (int left = 6; left >= 0; left--) {
            due("33: of 9 the latest 7", x.undo(), left);
        }
        due("33: circle 2 is left", x.count(4), 2);
        due("33: none", x.undo(), NONE);
        x.wipes();
        x.divides(5, 0);
        Check.day(x, "wu07c");
        due("33: three", x.count(7), 3);
        Check.write(x, "abc");
        due("33: the day", x.undo(), 2);
        due("33: the text stays", x.count(9), 3);
        due("33: five marks", x.count(6), 5);
        due("33: divides", x.undo(), 1);
        due("33: wipes", x.undo(), 0);
        x.geared(0, 1, NONE, NONE, 1);
        x.ungeared();
        due("33: ungeared", x.undo(), 1);
        due("33: the train is in", x.count(5), 2);
        x.cranks(1, 0, 0);
        Check.row("33: with its ratio", x, 1, 39);
    }

    // 34
    private static void years() {
        DividingHead x = new DividingHead();
        due("34: 0", x.years(1, 0), NONE);
        due("34: 31", x.years(1, 31), NONE);
        due("34: no row", x.count(8), 0);
        // R 1: 1103527590, by 65536: 16838, of 4: 2; then 2524885223 (without sign), 38526, of 5: 1;
        // then 662824084: 10113, of 15: 3: cranks 1 and 3/15 by 40 is 3/100
        due("34: one draw", x.years(1, 1), 0);
        Check.row("34: 3/100", x, 3, 100);
        x.cuts();
        x.cranks(0, 0, 0);
        int marks = x.years(-77, 30);
        long up = told(x, 0);
        long low = told(x, 1);
        due("34: the same again", x.years(-77, 30), marks);
        Check.row("34: the same again", x, up, low);
        due("34: it is forgotten", x.count(6), 1);
        due("34: not to be undone", x.count(7), 2);
        due("34: the circle stays", x.count(4), 0);
        x.mark(0);
        Check.row("34: the mark stays", x, 0, 1, 1, 1);
    }

    // 35, 36
    private static void keepAndAgain() {
        DividingHead x = new DividingHead();
        due("35: 2", x.keep(2) ? 1 : 0, 0);
        due("35: -1", x.keep(-1) ? 1 : 0, 0);
        due("36: nothing kept", x.again(0) ? 1 : 0, 0);
        due("36: others", x.again(2) ? 1 : 0, 0);
        due("36: others", x.again(-1) ? 1 : 0, 0);
        Check.plates(x, "15,20;30");
        Check.gears(x, "30,40,50,60");
        x.sets(0, 60);
        x.sets(1, 60);
        x.uses(1);
        x.geared(0, 1, NONE, NONE, 1);
        x.cranks(1, 1, 0);
        x.cuts();
        due("35: 1", x.keep(1) ? 1 : 0, 1);
        due("35: not to be undone, forgets nothing", x.count(7), 7);
        due("36: 0 is empty", x.again(0) ? 1 : 0, 0);
        due("36: refused forgets nothing", x.count(7), 7);
        DividingHead y = new DividingHead();
        Check.plates(x, "70");
        Check.gears(x, "");
        x.sets(0, 1);
        x.sets(1, 99);
        x.keep(0);
        x.circle(0);
        Check.write(x, "abc");
        due("36: 1", x.again(1) ? 1 : 0, 1);
        int[] counts = {60, 60, 3, 4, 1, 2, 1, 0, 1, 3, 2};
        for (int i = 0; i < counts.length; i++) {
            due("36: count(" + i + ")", x.count(i), counts[i]);
        }
        due("36: none to be undone", x.undo(), NONE);
        due("36: it is a mark", x.cuts(), -2);
        x.wipes();
        x.cranks(1, 0, 0);
        Check.row("36: with its ratio 3/4", x, 4, 237);
        due("36: kept still", x.again(1) ? 1 : 0, 1);
        due("36: one mark", x.count(6), 1);
        due("36: 0", x.again(0) ? 1 : 0, 1);
        due("36: one circle", x.count(2), 1);
        due("36: 70 holes", holes(x, 0), 70);
        due("35: over what was kept", x.keep(1) ? 1 : 0, 1);
        due("36: that", x.again(1) ? 1 : 0, 1);
        due("36: one circle", x.count(2), 1);
        due("36: another object has nothing", y.again(1) ? 1 : 0, 0);
    }

    // 37
    private static void count() {
        DividingHead x = new DividingHead();
        due("37: 11", x.count(11), NONE);
        due("37: -1", x.count(-1), NONE);
        due("37: far", x.count(Integer.MIN_VALUE), NONE);
        Check.plates(x, "15,20;30");
        Check.gears(x, "30,40,50,60");
        x.sets(0, 60);
        x.sets(1, 70);
        x.uses(2);
        x.geared(0, 1, 2, 3, -1);
        x.cuts();
        x.sign(0);
        int[] counts = {60, 70, 3, 4, 2, 4, 1, 7, 2, 4, 2};
        for (int i = 0; i < counts.length; i++) {
            due("37: count(" + i + ")", x.count(i), counts[i]);
        }
    }

    // 38
    private static void row() {
        DividingHead x = new DividingHead();
        due("38: none at first", told(x, 0), Long.MIN_VALUE);
        x.compound(51);
        due("38: 0", told(x, 0), 2);
        due("38: 4", told(x, 4), -6);
        due("38: 5", told(x, 5), Long.MIN_VALUE);
        due("38: -1", told(x, -1), Long.MIN_VALUE);
        due("38: far", told(x, Integer.MAX_VALUE), Long.MIN_VALUE);
        x.ways(51);
        due("38: a shorter one", told(x, 1), Long.MIN_VALUE);
        x.simple(51);
        x.count(3);
        due("38: stays", told(x, 0), 2);
    }
}
