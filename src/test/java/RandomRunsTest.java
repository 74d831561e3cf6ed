import java.util.NoSuchElementException;
import java.util.Random;

/** Runs of calls drawn by a seed, on DividingHead and on PlainHead: all that can be seen must be alike. */
public final class RandomRunsTest {
    private final Random random;
    private final DividingHead x = new DividingHead();
    private final PlainHead y = new PlainHead();
    private final String run;
    private String call = "";

    private RandomRunsTest(long seed) {
        random = new Random(seed);
        run = "run " + seed + ": ";
    }

    public static void main(String[] args) {
        int runs = args.length > 0 ? Integer.parseInt(args[0]) : 240;
        long from = args.length > 1 ? Long.parseLong(args[1]) : 0;
        for (int i = 0; i < runs && !Check.tooManyWrong(); i++) {
            new RandomRunsTest(from + i).play(150);
        }
        Check.finish();
    }

    private void play(int calls) {
        for (int i = 0; i < calls && !Check.tooManyWrong(); i++) {
            step(i);
            compareAll();
        }
    }

    private void compareAll() {
        for (int what = -1; what <= 11; what++) {
            Check.due(run + call + " then count(" + what + ")", x.count(what), y.count(what));
        }
        for (int i = -1; i <= y.count(8); i++) {
            Check.due(run + call + " then row(" + i + ")", rowOf(i, true), rowOf(i, false));
        }
    }

    private long rowOf(int i, boolean real) {
        try {
            return real ? x.row(i) : y.row(i);
        } catch (NoSuchElementException e) {
            return Long.MIN_VALUE;
        }
    }

    private void due(String name, long got, long want) {
        call = name;
        Check.due(run + name, got, want);
    }

    private int pick(int low, int high) {
        return low + random.nextInt(high - low + 1);
    }

    /** Mostly within the bounds, at times at them, at times beyond. */
    private int about(int low, int high) {
        switch (random.nextInt(12)) {
            case 0: return low;
            case 1: return high;
            case 2: return low - 1;
            case 3: return high + 1;
            default: return pick(low, high);
        }
    }

    private void write(String text) {
        Check.due(run + "end(0)", x.end(0) ? 1 : 0, y.end(0) ? 1 : 0);
        for (int p = 0; p < text.length(); p += 4) {
            int v = 0;
            for (int i = 0; i < 4; i++) {
                v = v << 8 | (p + i < text.length() ? text.charAt(p + i) & 255 : 0);
            }
            due("sign(" + v + ")", x.sign(v), y.sign(v));
        }
        due("end(" + text.length() + ")", x.end(text.length()) ? 1 : 0, y.end(text.length()) ? 1 : 0);
    }

    private String spoiled(String text) {
        if (random.nextInt(3) != 0) {
            return text;
        }
        StringBuilder b = new StringBuilder(text);
        int many = pick(1, 2);
        for (int i = 0; i < many; i++) {
            int p = random.nextInt(b.length() + 1);
            switch (random.nextInt(3)) {
                case 0:
                    b.insert(p, "0123456789,;+-utbcwgoz\377".charAt(random.nextInt(23)));
                    break;
                case 1:
                    b.setLength(p);
                    break;
                default:
                    if (p < b.length()) {
                        b.deleteCharAt(p);
                    }
            }
        }
        return b.toString();
    }

    private String platesText() {
        StringBuilder b = new StringBuilder();
        int plates = pick(1, random.nextInt(5) == 0 ? 4 : 3);
        for (int p = 0; p < plates; p++) {
            b.append(p == 0 ? "" : ";");
            int circles = pick(1, random.nextInt(6) == 0 ? 7 : 6);
            int v = pick(10, 30);
            for (int c = 0; c < circles; c++) {
                b.append(c == 0 ? "" : ",").append(v);
                v += pick(random.nextInt(9) == 0 ? 0 : 1, 7);
            }
        }
        return b.toString();
    }

    private String gearsText() {
        StringBuilder b = new StringBuilder();
        int gears = pick(0, random.nextInt(5) == 0 ? 13 : 8);
        for (int g = 0; g < gears; g++) {
            b.append(g == 0 ? "" : ",").append(random.nextInt(3) == 0 ? 20 * pick(1, 5) : pick(20, 100));
        }
        return b.toString();
    }

    private String two(int v) {
        int w = Math.max(0, Math.min(99, v));
        return (w < 10 ? "0" : "") + w;
    }

    private String dayText() {
        StringBuilder b = new StringBuilder();
        int acts = pick(0, 14);
        for (int i = 0; i < acts; i++) {
            String act;
            switch (random.nextInt(10)) {
                case 0: case 1: act = "u" + two(pick(0, y.count(2) - (random.nextInt(4) == 0 ? 0 : 1))); break;
                case 2: case 3: act = "t" + two(pick(0, 99)) + two(pick(0, 16)); break;
                case 4: act = "b" + two(pick(0, 99)) + two(pick(0, 16)); break;
                case 5: act = "w"; break;
                case 6: act = "o"; break;
                case 7: act = "g" + two(pick(0, 11)) + two(pick(0, 11)) + (random.nextBoolean() ? "+" : "-"); break;
                default: act = "c";
            }
            if (b.length() + act.length() <= 80) {
                b.append(act);
            }
        }
        return b.toString();
    }

    private int holesNow() {
        return holesOf(x.count(4));
    }

    private int holesOf(int k) {
        try {
            long a = x.circle(k);
            Check.due(run + "circle(" + k + ")", a, y.circle(k));
            return (int) a;
        } catch (NoSuchElementException e) {
            Check.holds(run + "circle(" + k + ") is there", false);
            return 10;
        }
    }

    private void step(int i) {
        switch (random.nextInt(19)) {
            case 0: texts(); break;
            case 1: outfit(); break;
            case 2: ask(); break;
            case 3: fractions(); break;
            case 4: case 5: case 6: case 7: wind(); break;
            case 8: case 9: case 10: cut(); break;
            case 11: case 12: gearIn(); break;
            case 13: case 14: questions(); break;
            case 15: days(); break;
            case 16: back(); break;
            case 17: walkTo(); break;
            default: elements();
        }
    }

    private void texts() {
        if (random.nextBoolean()) {
            int v = random.nextInt();
            due("sign(" + v + ")", x.sign(v), y.sign(v));
        } else {
            int n = about(0, y.count(9));
            due("end(" + n + ")", x.end(n) ? 1 : 0, y.end(n) ? 1 : 0);
        }
    }

    private void outfit() {
        switch (random.nextInt(8)) {
            case 0: {
                String t = spoiled(platesText());
                if (t.length() <= 80) {
                    write(t);
                    due("plates() of " + t, x.plates(), y.plates());
                }
                break;
            }
            case 1: {
                String t = spoiled(gearsText());
                write(t);
                due("gears() of " + t, x.gears(), y.gears());
                break;
            }
            case 2: {
                int what = about(0, 1);
                int v = what == 1 ? about(10, 100) : random.nextBoolean() ? about(1, 120) : pick(1, 6);
                due("sets(" + what + ", " + v + ")", x.sets(what, v), y.sets(what, v));
                break;
            }
            default:
        }
    }

    private void ask() {
        int n = about(2, random.nextBoolean() ? 80 : 400);
        switch (random.nextInt(6)) {
            case 0: due("simple(" + n + ")", x.simple(n), y.simple(n)); break;
            case 1: due("compound(" + n + ")", x.compound(n), y.compound(n)); break;
            case 2: due("differential(" + n + ")", x.differential(n), y.differential(n)); break;
            case 3: due("ways(" + n + ")", x.ways(n), y.ways(n)); break;
            case 4: {
                int high = n + pick(-1, random.nextInt(8) == 0 ? 60 : 5);
                due("hard(" + n + ", " + high + ")", x.hard(n, high), y.hard(n, high));
                break;
            }
            default: {
                int way = about(0, 2);
                int parts = about(2, 60);
                due("divides(" + parts + ", " + way + ")", x.divides(parts, way), y.divides(parts, way));
            }
        }
    }

    private void fractions() {
        int p = about(1, random.nextBoolean() ? 20 : 400);
        int q = about(1, random.nextBoolean() ? 20 : 400);
        switch (random.nextInt(7)) {
            case 0: due("train(" + p + ", " + q + ")", x.train(p, q), y.train(p, q)); break;
            case 1: due("nearest(" + p + ", " + q + ")", x.nearest(p, q), y.nearest(p, q)); break;
            case 2: due("ratios()", x.ratios(), y.ratios()); break;
            case 3: {
                int l = about(1, random.nextBoolean() ? 3000 : 20000);
                due("lead(" + l + ")", x.lead(l), y.lead(l));
                break;
            }
            case 4: {
                int a = about(1, random.nextBoolean() ? 1000 : 100000);
                int b = about(1, random.nextBoolean() ? 1000 : 100000);
                int m = about(1, random.nextBoolean() ? 20 : 1000);
                due("near(" + a + ", " + b + ", " + m + ")", x.near(a, b, m), y.near(a, b, m));
                break;
            }
            case 5: due("tree(" + p + ", " + q + ")", x.tree(p, q), y.tree(p, q)); break;
            default: {
                int s = random.nextInt(4) == 0 ? 1296000 / pick(2, 60) : about(1, 1295999);
                due("angle(" + s + ")", x.angle(s), y.angle(s));
            }
        }
    }

    private void wind() {
        int t = about(0, random.nextBoolean() ? 5 : 99);
        int h = about(0, holesNow() - 1);
        int back = random.nextInt(15) == 0 ? about(0, 1) : random.nextInt(2);
        due("cranks(" + t + ", " + h + ", " + back + ")", x.cranks(t, h, back), y.cranks(t, h, back));
    }

    private void cut() {
        if (random.nextInt(12) == 0) {
            due("wipes()", x.wipes(), y.wipes());
        } else {
            due("cuts()", x.cuts(), y.cuts());
        }
    }

    private void gearIn() {
        if (random.nextInt(3) == 0) {
            int k = about(0, y.count(2) - 1);
            due("uses(" + k + ")", x.uses(k), y.uses(k));
            return;
        }
        if (random.nextInt(3) == 0) {
            due("ungeared()", x.ungeared(), y.ungeared());
            return;
        }
        int most = Math.max(1, y.count(3)) - 1;
        int a = about(0, most);
        int b = about(0, most);
        boolean two = random.nextBoolean();
        int c = two ? -1 : about(0, most);
        int d = two && random.nextInt(8) != 0 ? -1 : about(0, most);
        int side = random.nextInt(12) == 0 ? pick(-2, 2) : random.nextBoolean() ? 1 : -1;
        due("geared(" + a + ", " + b + ", " + c + ", " + d + ", " + side + ")",
            x.geared(a, b, c, d, side), y.geared(a, b, c, d, side));
    }

    private void questions() {
        switch (random.nextInt(4)) {
            case 0: {
                int k = about(0, Math.max(0, y.count(6) - 1));
                due("mark(" + k + ")", x.mark(k), y.mark(k));
                break;
            }
            case 1: due("gaps()", x.gaps(), y.gaps()); break;
            case 2: {
                int n = about(1, random.nextBoolean() ? 60 : 400);
                due("missing(" + n + ")", x.missing(n), y.missing(n));
                break;
            }
            default: due("reaches()", x.reaches(), y.reaches());
        }
    }

    private void days() {
        if (random.nextInt(3) == 0) {
            int seed = random.nextInt();
            int n = about(1, 30);
            due("years(" + seed + ", " + n + ")", x.years(seed, n), y.years(seed, n));
            return;
        }
        String t = spoiled(dayText());
        if (t.length() <= 80) {
            write(t);
            due("day() of " + t, x.day(), y.day());
        }
    }

    private void back() {
        int i = random.nextInt(6) == 0 ? pick(-1, 2) : pick(0, 1);
        switch (random.nextInt(6)) {
            case 0: due("keep(" + i + ")", x.keep(i) ? 1 : 0, y.keep(i) ? 1 : 0); break;
            case 1:
                if (random.nextInt(3) == 0) {
                    due("again(" + i + ")", x.again(i) ? 1 : 0, y.again(i) ? 1 : 0);
                }
                break;
            default: due("undo()", x.undo(), y.undo());
        }
    }

    /** A few holes away from a mark, so that reaches() finds one. */
    private void walkTo() {
        int h = pick(0, holesNow() - 1);
        due("cuts()", x.cuts(), y.cuts());
        due("cranks(1, " + h + ", 1)", x.cranks(1, h, 1), y.cranks(1, h, 1));
        due("reaches()", x.reaches(), y.reaches());
    }

    private void elements() {
        int k = about(0, 18);
        due("circle(" + k + ")", elementOf(k, 0), elementOf(k, 1));
        due("gear(" + k + ")", elementOf(k, 2), elementOf(k, 3));
    }

    private long elementOf(int k, int which) {
        try {
            switch (which) {
                case 0: return x.circle(k);
                case 1: return y.circle(k);
                case 2: return x.gear(k);
                default: return y.gear(k);
            }
        } catch (NoSuchElementException e) {
            return Long.MIN_VALUE;
        }
    }
}
