/** The bounds that 'What it is' and 'Terms' name: what the numbers may be, what is so at first, what a refused call leaves. */
public final class TermsBoundsTest {
    private static final int NONE = DividingHead.NONE;
    private static final int FAR = Integer.MAX_VALUE;
    private static final int LOW = Integer.MIN_VALUE;

    private TermsBoundsTest() {
    }

    public static void main(String[] args) {
        turnsUpToCall512();
        textsUpToCall512();
        questionsUpToCall512();
        undoneUpToCall512();
        wormAndPitchAtFirst();
        platesAtFirst();
        gearsAtFirst();
        machineAtFirst();
        wormBounds();
        pitchBounds();
        holesBounds();
        circlesBounds();
        platesBounds();
        gearsBounds();
        teethBounds();
        trainsOfUnlikeGears();
        trainsOfTwoAheadOfFour();
        trainsInOrder();
        zeroIsZeroByOne();
        fractionsAreSmall();
        positionIsBelowOne();
        positionIsZeroOrMore();
        marksBounds();
        treeBegins();
        rowStaysWithAnswersBelowZero();
        noneComesAhead();
        refusedCallsChangeNothing();
        refusedReadersEmptyTheText();
        answersBelowZeroChangeNothing();
        questionsChangeNothing();
        rowsOfOtherCallsStay();
        Check.finish();
    }

    private static void due(String call, long got, long want) {
        Check.due(call, got, want);
    }

    // ---- what it is: 512 calls

    private static void turnsUpToCall512() {
        DividingHead x = new DividingHead();
        for (int i = 0; i < 510; i++) {
            due("512 calls: turn " + i, x.cranks(1, 0, 0), 0);
        }
        due("512 calls: 510 by 40, all round: call 511", x.row(0), 3);
        due("512 calls: 510 by 40, all round: call 512", x.row(1), 4);
    }

    private static void textsUpToCall512() {
        DividingHead x = new DividingHead();
        for (int i = 0; i < 128; i++) {
            x.sign('2' << 24 | '0' << 16 | ',' << 8 | '2' + i % 2 * 2);
            x.sign('0' << 24);
            x.end(i % 3 == 2 ? 2 : 5);
            due("512 calls: gears() " + i, x.gears(), i % 3 == 2 ? 1 : 2);
        }
    }

    private static void questionsUpToCall512() {
        DividingHead x = new DividingHead();
        for (int i = 0; i < 128; i++) {
            due("512 calls: divides(51, 2)", x.divides(51, 2), 51);
            due("512 calls: compound(51)", x.compound(51), 8);
            due("512 calls: hard(51, 51)", x.hard(51, 51), 1);
            due("512 calls: missing(51)", x.missing(51), 0);
        }
    }

    private static void undoneUpToCall512() {
        DividingHead x = new DividingHead();
        x.keep(1);
        for (int i = 0; i < 255; i++) {
            due("512 calls: uses()", x.uses(17), 0);
            due("512 calls: undo()", x.undo(), 0);
        }
        due("512 calls: call 512", x.again(1) ? 1 : 0, 1);
    }

    // ---- terms, 1: at first

    private static void wormAndPitchAtFirst() {
        DividingHead x = new DividingHead();
        due("at first WORM is 40", x.count(0), 40);
        due("at first PITCH is 50", x.count(1), 50);
    }

    private static void platesAtFirst() {
        DividingHead x = new DividingHead();
        int[] holes = {15, 16, 17, 18, 19, 20, 21, 23, 27, 29, 31, 33, 37, 39, 41, 43, 47, 49};
        due("at first three PLATES", x.count(10), 3);
        due("at first 18 CIRCLES", x.count(2), holes.length);
        for (int k = 0; k < holes.length; k++) {
            due("at first HOLES of " + k, x.circle(k), holes[k]);
            Check.row("at first PLATE of " + k, x, k < 6 ? 0 : k < 12 ? 1 : 2);
        }
    }

    private static void gearsAtFirst() {
        DividingHead x = new DividingHead();
        int[] teeth = {24, 24, 28, 32, 40, 44, 48, 56, 64, 72, 86, 100};
        due("at first 12 GEARS", x.count(3), teeth.length);
        for (int k = 0; k < teeth.length; k++) {
            due("at first TEETH of " + k, x.gear(k), teeth[k]);
        }
    }

    private static void machineAtFirst() {
        DividingHead x = new DividingHead();
        due("at first CIRCLE 0", x.count(4), 0);
        due("at first no TRAIN", x.count(5), 0);
        due("at first no MARKS", x.count(6), 0);
        due("at first nothing to undo", x.count(7), 0);
        due("at first no ROW", x.count(8), 0);
        due("at first no TEXT", x.count(9), 0);
        due("at first nothing is kept under 0", x.again(0) ? 1 : 0, 0);
        due("at first nothing is kept under 1", x.again(1) ? 1 : 0, 0);
        x.cranks(0, 0, 0);
        Check.row("at first POSITION is 0", x, 0, 1);
    }

    // ---- terms, 1: what the numbers may be

    private static void wormBounds() {
        DividingHead x = new DividingHead();
        due("WORM 120", x.sets(0, 120), 40);
        due("WORM 121", x.sets(0, 121), NONE);
        due("WORM stays 120", x.count(0), 120);
        due("WORM 119", x.sets(0, 119), 120);
        due("WORM 1", x.sets(0, 1), 119);
        due("WORM 0", x.sets(0, 0), NONE);
        due("WORM below", x.sets(0, -1), NONE);
        due("WORM stays 1", x.count(0), 1);
        due("WORM 2", x.sets(0, 2), 1);
    }

    private static void pitchBounds() {
        DividingHead x = new DividingHead();
        due("PITCH 100", x.sets(1, 100), 50);
        due("PITCH 101", x.sets(1, 101), NONE);
        due("PITCH stays 100", x.count(1), 100);
        due("PITCH 99", x.sets(1, 99), 100);
        due("PITCH 10", x.sets(1, 10), 99);
        due("PITCH 9", x.sets(1, 9), NONE);
        due("PITCH stays 10", x.count(1), 10);
        due("PITCH 11", x.sets(1, 11), 10);
    }

    private static void holesBounds() {
        DividingHead x = new DividingHead();
        due("HOLES 10", Check.plates(x, "10"), 1);
        due("HOLES 10 are so many", x.circle(0), 10);
        due("HOLES 9", Check.plates(x, "09"), -2);
        due("HOLES 11", Check.plates(x, "11"), 1);
        due("HOLES 70", Check.plates(x, "70"), 1);
        due("HOLES 70 are so many", x.circle(0), 70);
        due("HOLES 71", Check.plates(x, "71"), -2);
        due("HOLES 69", Check.plates(x, "69"), 1);
        due("HOLES stay 69", x.circle(0), 69);
        due("HOLES rise by 1", Check.plates(x, "30,31"), 2);
        due("HOLES alike", Check.plates(x, "30,30"), -5);
        due("HOLES fall by 1", Check.plates(x, "30,29"), -5);
        due("HOLES needn't rise from PLATE to PLATE", Check.plates(x, "30;30;29"), 3);
        due("HOLES of the third PLATE", x.circle(2), 29);
    }

    private static void circlesBounds() {
        DividingHead x = new DividingHead();
        due("one CIRCLE a PLATE", Check.plates(x, "20;21"), 2);
        due("5 CIRCLES", Check.plates(x, "20,21,22,23,24"), 5);
        due("6 CIRCLES", Check.plates(x, "20,21,22,23,24,25"), 6);
        due("7 CIRCLES", Check.plates(x, "20,21,22,23,24,25,26"), -18);
        due("6 stay", x.count(2), 6);
        due("no CIRCLE in the second PLATE", Check.plates(x, "20;"), -4);
        due("no CIRCLE in the first PLATE", Check.plates(x, ";20"), -1);
        due("no CIRCLE in the middle", Check.plates(x, "20;;21"), -4);
        due("7 in the last PLATE", Check.plates(x, "20;21;22,23,24,25,26,27,28"), -24);
        due("6 in each, 18 in all", Check.plates(x, "10,11,12,13,14,15;10,11,12,13,14,15;10,11,12,13,14,15"), 18);
        due("CIRCLE 17", x.circle(17), 15);
        Check.row("CIRCLE 17 is of PLATE 2", x, 2);
        due("CIRCLE 6", x.circle(6), 10);
        Check.row("CIRCLE 6 is of PLATE 1", x, 1);
    }

    private static void platesBounds() {
        DividingHead x = new DividingHead();
        due("one PLATE", Check.plates(x, "20,21"), 2);
        due("one PLATE it is", x.count(10), 1);
        due("two PLATES", Check.plates(x, "20;21"), 2);
        due("two PLATES they are", x.count(10), 2);
        due("three PLATES", Check.plates(x, "20;21;22"), 3);
        due("three PLATES they are", x.count(10), 3);
        due("four PLATES", Check.plates(x, "20;21;22;23"), -9);
        due("three PLATES stay", x.count(10), 3);
        due("no PLATE", Check.plates(x, ""), -1);
    }

    private static void gearsBounds() {
        DividingHead x = new DividingHead();
        due("11 GEARS", Check.gears(x, "20,20,20,20,20,20,20,20,20,20,20"), 11);
        due("12 GEARS", Check.gears(x, "20,20,20,20,20,20,20,20,20,20,20,100"), 12);
        due("the last of 12", x.gear(11), 100);
        due("13 GEARS", Check.gears(x, "20,20,20,20,20,20,20,20,20,20,20,20,20"), -36);
        due("12 GEARS stay", x.count(3), 12);
        due("one GEAR", Check.gears(x, "20"), 1);
        due("no GEAR", Check.gears(x, ""), 0);
        due("none it is", x.count(3), 0);
    }

    private static void teethBounds() {
        DividingHead x = new DividingHead();
        due("TEETH 20", Check.gears(x, "20"), 1);
        due("TEETH 20 are so many", x.gear(0), 20);
        due("TEETH 19", Check.gears(x, "19"), -2);
        due("TEETH 21", Check.gears(x, "21"), 1);
        due("TEETH 99", Check.gears(x, "99"), 1);
        due("TEETH 100", Check.gears(x, "100"), 1);
        due("TEETH 100 are so many", x.gear(0), 100);
        due("TEETH 101", Check.gears(x, "101"), -3);
        due("TEETH stay 100", x.gear(0), 100);
        due("two may be alike", Check.gears(x, "30,30"), 2);
        due("the second of them", x.gear(1), 30);
    }

    private static void trainsOfUnlikeGears() {
        DividingHead x = new DividingHead();
        Check.gears(x, "50");
        due("no TRAIN of one GEAR and itself", x.train(1, 1), -2);
        Check.gears(x, "50,50");
        due("two GEARS alike are a TRAIN", x.train(1, 1), 2);
        Check.row("two GEARS alike", x, 0, 1);
        Check.gears(x, "20,40,80");
        due("three GEARS make no TRAIN of four", x.train(1, 8), -2);
        due("nor is a GEAR in it twice", x.ratios(), 4);
        Check.gears(x, "20,40,80,80");
        due("a fourth", x.train(1, 8), 4);
        Check.row("20 by 80, 40 by 80", x, 0, 2, 1, 3);
    }

    private static void trainsOfTwoAheadOfFour() {
        DividingHead x = new DividingHead();
        Check.gears(x, "20,30,60,40,100,100");
        // 20 * 60 by 30 * 40 is 1 too
        due("those of two ahead of those of four", x.train(1, 1), 2);
        Check.row("those of two ahead of those of four", x, 4, 5);
    }

    private static void trainsInOrder() {
        DividingHead x = new DividingHead();
        Check.gears(x, "100,80,40,40,20");
        due("by a", x.train(2, 1), 2);
        Check.row("by a, then by b", x, 1, 2);
        Check.gears(x, "20,21,60,63,21,63");
        // 1 by 9: 20 by 60 times 21 by 63, of several the first c, the first d
        due("by c, then by d", x.train(1, 9), 4);
        Check.row("by c, then by d", x, 0, 2, 1, 3);
        Check.gears(x, "60,20,63,21");
        due("a is the first that can be", x.train(9, 1), 4);
        Check.row("a ahead of c, b ahead of d", x, 0, 1, 2, 3);
    }

    private static void zeroIsZeroByOne() {
        DividingHead x = new DividingHead();
        x.cranks(3, 5, 0);
        x.cranks(3, 5, 1);
        Check.row("0 is 0 and 1: POSITION", x, 0, 1);
        x.nearest(1, 1);
        Check.row("0 is 0 and 1: how far off", x, 0, 1, 1, 1, 0, 1);
        x.near(1, 3, 1);
        Check.row("0 is 0 and 1: near", x, 0, 1, 1, 3);
    }

    private static void fractionsAreSmall() {
        DividingHead x = new DividingHead();
        x.cranks(20, 0, 0);
        Check.row("as small as can be: POSITION", x, 1, 2);
        x.geared(3, 8, NONE, NONE, 1);
        Check.row("as small as can be: RATIO", x, 1, 2);
        x.near(6, 8, 4);
        Check.row("as small as can be: near", x, 3, 4, 0, 1);
        x.tree(400, 400);
        Check.row("as small as can be: tree", x);
    }

    private static void positionIsBelowOne() {
        DividingHead x = new DividingHead();
        x.cranks(39, 14, 0);
        Check.row("one hole below 1", x, 599, 600);
        x.cranks(0, 1, 0);
        Check.row("1 is 0", x, 0, 1);
        x.cranks(40, 1, 0);
        Check.row("all round and a hole", x, 1, 600);
        x.cranks(80, 0, 0);
        Check.row("twice all round", x, 1, 600);
    }

    private static void positionIsZeroOrMore() {
        DividingHead x = new DividingHead();
        x.cranks(0, 1, 1);
        Check.row("one hole back from 0", x, 599, 600);
        x.cranks(39, 14, 1);
        Check.row("0, back", x, 0, 1);
        x.cranks(99, 14, 1);
        Check.row("back by more than twice round", x, 301, 600);
    }

    private static void marksBounds() {
        DividingHead x = new DividingHead();
        for (int i = 1; i <= 60; i++) {
            due("MARK " + i, x.cuts(), i);
            x.cranks(0, 1, 0);
        }
        due("MARK 61", x.cuts(), -3);
        due("60 stay", x.count(6), 60);
        due("the last", x.mark(59), 0);
        Check.row("the last", x, 59, 600, 541, 600);
    }

    private static void treeBegins() {
        DividingHead x = new DividingHead();
        due("THE TREE begins with 1 by 1", x.tree(1, 1), 0);
        due("less: with 0 by 1", x.tree(1, 2), 1);
        Check.row("1 by 2", x, 0);
        due("more: with 1 by 0", x.tree(2, 1), 1);
        Check.row("2 by 1", x, 1);
        due("between 1 by 2 and 1 by 1", x.tree(2, 3), 2);
        Check.row("2 by 3", x, 0, 1);
    }

    // ---- terms, 2

    private static Twin.Calls text(String t, Twin.Calls then) {
        return x -> {
            Check.write(x, t);
            then.on(x);
        };
    }

    private static Twin.Calls[] belowZero() {
        return new Twin.Calls[] {
            x -> due("below 0", x.sets(0, 40), -2), x -> due("below 0", x.sets(0, 121), NONE),
            x -> due("below 0", x.simple(399), -2), x -> due("below 0", x.simple(401), NONE),
            x -> due("below 0", x.compound(397), -2), x -> due("below 0", x.compound(1), NONE),
            x -> due("below 0", x.differential(397), -2), x -> due("below 0", x.differential(1), NONE),
            x -> due("below 0", x.ways(1), NONE), x -> due("below 0", x.hard(5, 4), NONE),
            x -> due("below 0", x.train(1, 397), -2), x -> due("below 0", x.train(0, 1), NONE),
            x -> due("below 0", x.nearest(1, 401), NONE), x -> due("below 0", x.lead(0), NONE),
            x -> due("below 0", x.near(1, 1, 0), NONE), x -> due("below 0", x.tree(1, 401), NONE),
            x -> due("below 0", x.angle(0), NONE), x -> due("below 0", x.uses(1), -2),
            x -> due("below 0", x.uses(4), NONE), x -> due("below 0", x.geared(0, 0, NONE, NONE, 1), NONE),
            x -> due("below 0", x.geared(0, 1, 2, 3, 0), NONE), x -> due("below 0", x.cranks(0, 20, 0), NONE),
            x -> due("below 0", x.cuts(), -2), x -> due("below 0", x.divides(59, 0), -2),
            x -> due("below 0", x.divides(61, 0), NONE), x -> due("below 0", x.mark(2), NONE),
            x -> due("below 0", x.missing(0), NONE), x -> due("below 0", x.years(1, 31), NONE),
            x -> due("below 0", x.count(11), NONE),
        };
    }

    private static void rowStaysWithAnswersBelowZero() {
        Twin.Calls[] calls = belowZero();
        for (int i = 0; i < calls.length; i++) {
            DividingHead x = new DividingHead();
            Twin.busy(x);
            calls[i].on(x);
            Check.row("the ROW stays with answer below 0, " + i, x, 61, 785, 149, 157);
        }
        String[] wrong = {"1", "2", "x"};
        for (int i = 0; i < 3; i++) {
            DividingHead x = new DividingHead();
            Twin.busy(x);
            Check.write(x, wrong[i]);
            due("-1 - p", i == 0 ? x.plates() : i == 1 ? x.gears() : x.day(), i < 2 ? -2 : -1);
            Check.row("the ROW stays with -1 - p", x, 61, 785, 149, 157);
        }
        withoutTrainsAndMarks();
    }

    private static void withoutTrainsAndMarks() {
        DividingHead x = new DividingHead();
        Check.gears(x, "50");
        x.circle(17);
        due("no TRAINS", x.nearest(1, 1), -2);
        due("no TRAINS", x.ratios(), -2);
        due("no TRAINS", x.lead(1), -2);
        due("no TRAINS", x.train(1, 1), -2);
        due("no TRAIN", x.ungeared(), -2);
        due("no MARKS", x.gaps(), -2);
        due("no MARKS", x.reaches(), -2);
        Check.row("the ROW stays", x, 2);
        DividingHead y = new DividingHead();
        due("none to undo", y.undo(), NONE);
        due("the ROW stays empty", y.count(8), 0);
        y.sets(0, 1);
        Check.gears(y, "50,50");
        y.circle(17);
        due("RATIO is WORM", y.geared(0, 1, NONE, NONE, 1), -4);
        Check.row("the ROW stays with -4", y, 2);
    }

    private static void noneComesAhead() {
        DividingHead x = new DividingHead();
        Check.gears(x, "50,50");
        x.sets(0, 1);
        due("NONE ahead of -4: geared", x.geared(0, 1, NONE, NONE, 2), NONE);
        due("NONE ahead of -4: geared of one GEAR twice", x.geared(0, 0, NONE, NONE, 1), NONE);
        Check.gears(x, "");
        due("NONE ahead of -2: train", x.train(0, 1), NONE);
        due("NONE ahead of -2: nearest", x.nearest(1, 401), NONE);
        due("NONE ahead of -2: lead", x.lead(20001), NONE);
        due("NONE ahead of -2: differential", x.differential(401), NONE);
        due("NONE ahead of -2: simple", x.simple(401), NONE);
        due("NONE ahead of -2: compound", x.compound(401), NONE);
        due("NONE ahead of -2: divides, n", x.divides(61, 2), NONE);
        due("NONE ahead of -2: divides, way", x.divides(51, 3), NONE);
        due("NONE ahead of -2: sets", x.sets(2, 1), NONE);
        aheadOfTooLarge();
    }

    private static void aheadOfTooLarge() {
        DividingHead x = new DividingHead();
        x.sets(0, 1);
        for (int k : new int[] {16, 15, 14, 12, 10}) {
            x.uses(k);
            x.cranks(0, 1, 0);
        }
        x.uses(9);
        due("-4", x.cranks(0, 1, 0), -4);
        due("NONE ahead of -4: cranks, turns", x.cranks(100, 1, 0), NONE);
        due("NONE ahead of -4: cranks, holes", x.cranks(0, 29, 0), NONE);
        due("NONE ahead of -4: cranks, back", x.cranks(0, 1, 2), NONE);
    }

    private static void refusedCallsChangeNothing() {
        Twin.Calls full = x -> {
            Twin.busy(x);
            Check.write(x, "c".repeat(80));
        };
        Twin.stays("refused sign() changes nothing", full, x -> due("81 signs", x.sign(0), NONE));
        Twin.Calls[] refused = {
            x -> x.end(-1), x -> x.end(3), x -> x.end(FAR), x -> x.end(LOW),
            x -> x.keep(2), x -> x.keep(-1), x -> x.again(2), x -> x.again(-1), x -> x.again(0),
            x -> x.sets(0, 0), x -> x.sets(1, 101), x -> x.sets(2, 50), x -> x.sets(-1, 50),
            x -> x.uses(-1), x -> x.uses(4), x -> x.uses(FAR),
            x -> x.geared(0, 1, 2, NONE, 1), x -> x.geared(0, 1, NONE, 2, 1), x -> x.geared(4, 1, NONE, NONE, 1),
            x -> x.cranks(-1, 0, 0), x -> x.cranks(100, 0, 0), x -> x.cranks(0, -1, 0), x -> x.cranks(0, 20, 0),
            x -> x.cranks(0, 0, 2), x -> x.cranks(0, 0, -1), x -> x.divides(1, 0), x -> x.divides(61, 0),
            x -> x.divides(5, -1), x -> x.divides(5, 3), x -> x.years(5, 0), x -> x.years(5, 31),
            x -> x.mark(-1), x -> x.mark(2), x -> x.missing(401), x -> x.count(-1),
            x -> Check.holds("row(4)", Twin.rowThrows(x, 4)), x -> Check.holds("row(-1)", Twin.rowThrows(x, -1)),
            x -> Check.holds("circle(4)", Twin.circleThrows(x, 4)), x -> Check.holds("gear(4)", Twin.gearThrows(x, 4)),
            x -> Check.holds("circle(-1)", Twin.circleThrows(x, -1)), x -> Check.holds("gear(-1)", Twin.gearThrows(x, -1)),
        };
        for (int i = 0; i < refused.length; i++) {
            Twin.stays("refused call " + i + " changes nothing", Twin::busy, refused[i]);
        }
        Twin.stays("refused undo() changes nothing", x -> x.cranks(0, 0, 0), x -> {
            x.undo();
            x.undo();
            x.cranks(0, 0, 0);
        });
    }

    private static void refusedReadersEmptyTheText() {
        String[] plates = {"", "x", "15,20,", "15;16;17;18", "15,14"};
        for (String t : plates) {
            Twin.staysButText("refused plates() of " + t, text(t, Twin::busy), text(t, DividingHead::plates));
        }
        String[] gears = {"x", "20,", "20,19", "20,20,20,20,20,20,20,20,20,20,20,20,20"};
        for (String t : gears) {
            Twin.staysButText("refused gears() of " + t, Twin::busy, text(t, DividingHead::gears));
        }
        String[] days = {"x", "wx", "wu0", "t0001b00", "wg0001*"};
        for (String t : days) {
            Twin.staysButText("refused day() of " + t, Twin::busy, text(t, DividingHead::day));
        }
    }

    private static void answersBelowZeroChangeNothing() {
        Twin.Calls[] calls = belowZero();
        for (int i = 0; i < calls.length; i++) {
            Twin.stays("answer below 0 changes nothing, " + i, Twin::busy, calls[i]);
        }
        Twin.stays("-3 changes nothing", x -> {
            x.divides(60, 0);
            x.cranks(0, 1, 0);
            x.simple(7);
        }, x -> due("-3", x.cuts(), -3));
        Twin.stays("-4 of geared() changes nothing", x -> {
            x.sets(0, 1);
            x.geared(0, 2, NONE, NONE, 1);
        }, x -> due("-4", x.geared(0, 1, NONE, NONE, 1), -4));
        Twin.stays("-2 of ungeared() changes nothing", x -> x.cuts(), x -> due("-2", x.ungeared(), -2));
    }

    private static void questionsChangeNothing() {
        Twin.Calls[] questions = {
            x -> x.circle(3), x -> x.gear(3), x -> x.simple(2), x -> x.compound(40), x -> x.differential(41),
            x -> x.ways(51), x -> x.hard(2, 61), x -> x.train(3, 4), x -> x.nearest(3, 5), x -> x.ratios(),
            x -> x.lead(1000), x -> x.near(355, 113, 10), x -> x.tree(3, 5), x -> x.angle(1000), x -> x.mark(0),
            x -> x.gaps(), x -> x.missing(40), x -> x.reaches(), x -> x.years(7, 30), x -> x.count(3), x -> x.row(3),
        };
        for (int i = 0; i < questions.length; i++) {
            Twin.staysButRow("question " + i + " changes nothing", Twin::busy, questions[i]);
        }
    }

    /** Calls of which no ROW is told leave that which is there. */
    private static void rowsOfOtherCallsStay() {
        DividingHead x = new DividingHead();
        x.compound(51);
        x.uses(3);
        x.cuts();
        x.wipes();
        x.sets(1, 60);
        x.sets(1, 50);
        x.sign(0);
        x.end(0);
        Check.gears(x, "20,30");
        Check.plates(x, "20,30");
        x.gear(0);
        x.keep(0);
        x.again(0);
        x.cuts();
        x.undo();
        x.count(8);
        Check.row("calls that tell no ROW leave it", x, 2, 3, 1, 2, -6);
        x.geared(0, 1, NONE, NONE, 1);
        x.compound(40);
        Check.row("COMPOUND of 40 is a turn", x, 0, 1, 1, 2, -3);
        x.ungeared();
        Check.row("calls that tell no ROW leave it", x, 0, 1, 1, 2, -3);
    }
}
