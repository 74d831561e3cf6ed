import java.util.NoSuchElementException;
import java.util.Random;

/** Whatever the arguments and whatever came before: no call throws but where the document says so. */
public final class NeverThrowsTest {
    private static final int[] EDGES = {Integer.MIN_VALUE, Integer.MIN_VALUE + 1, -65536, -20, -3, -2, -1, 0, 1, 2, 3, 4, 5,
        11, 12, 17, 18, 59, 60, 61, 79, 80, 99, 100, 120, 400, 401, 1000, 20000, 100000, 1295999, 1296000, 65536,
        Integer.MAX_VALUE - 1, Integer.MAX_VALUE};
    private static final String SIGNS = "0123456789,;utbcwgo+-";

    private NeverThrowsTest() {
    }

    public static void main(String[] args) {
        for (int seed = 0; seed < 300; seed++) {
            Random random = new Random(seed);
            DividingHead x = new DividingHead();
            for (int i = 0; i < 512; i++) {
                int kind = random.nextInt(40);
                try {
                    call(x, random, kind);
                } catch (NoSuchElementException e) {
                    Check.holds("call " + kind + " may throw", kind == 6 || kind == 7 || kind == 37);
                } catch (RuntimeException e) {
                    Check.holds("seed " + seed + ", call " + kind + " threw " + e, false);
                }
                Check.holds("the answers below 0 of count()", x.count(random.nextInt(11)) >= 0);
            }
        }
        Check.finish();
    }

    private static int any(Random random) {
        switch (random.nextInt(4)) {
            case 0: return random.nextInt();
            case 1: return EDGES[random.nextInt(EDGES.length)];
            case 2: return random.nextInt(400);
            default: return random.nextInt(12);
        }
    }

    private static int signs(Random random) {
        int v = 0;
        for (int i = 0; i < 4; i++) {
            v = v << 8 | SIGNS.charAt(random.nextInt(SIGNS.length()));
        }
        return v;
    }

    private static void call(DividingHead x, Random random, int kind) {
        int a = any(random);
        int b = any(random);
        int c = any(random);
        switch (kind) {
            case 0: x.sign(random.nextInt(3) == 0 ? a : signs(random)); break;
            case 1: x.end(a); break;
            case 2: if (random.nextInt(4) == 0) Check.plates(x, "10,13,70;11"); else x.plates(); break;
            case 3: if (random.nextInt(4) == 0) Check.gears(x, "100,20,21,100,40"); else x.gears(); break;
            case 4: x.sets(a, b); break;
            case 5: x.sets(random.nextInt(2), a); break;
            case 6: x.circle(a); break;
            case 7: x.gear(a); break;
            case 8: x.simple(a); break;
            case 9: x.compound(a); break;
            case 10: x.differential(a); break;
            case 11: x.ways(a); break;
            case 12: x.hard(a, b); break;
            case 13: x.train(a, b); break;
            case 14: x.nearest(a, b); break;
            case 15: x.ratios(); break;
            case 16: x.lead(a); break;
            case 17: x.near(a, b, c); break;
            case 18: x.tree(a, b); break;
            case 19: x.angle(a); break;
            case 20: x.uses(a); break;
            case 21: x.geared(a, b, c, any(random), any(random)); break;
            case 22: x.geared(random.nextInt(12), random.nextInt(12), random.nextInt(12), random.nextInt(12), 1); break;
            case 23: x.ungeared(); break;
            case 24: x.cranks(a, b, c); break;
            case 25: x.cranks(random.nextInt(100), random.nextInt(15), random.nextInt(2)); break;
            case 26: x.cuts(); break;
            case 27: if (random.nextInt(5) == 0) x.wipes(); break;
            case 28: x.divides(a, random.nextInt(3)); break;
            case 29: x.mark(a); break;
            case 30: x.gaps(); break;
            case 31: x.missing(a); break;
            case 32: x.reaches(); break;
            case 33: x.day(); break;
            case 34: x.undo(); break;
            case 35: x.years(a, b); break;
            case 36: x.keep(a); break;
            case 37: x.row(a); break;
            case 38: x.again(a); break;
            default: x.count(a);
        }
    }
}
