/** Questions for the nearest of something, asked throughout small ranges, where two are often equally near. */
public final class TiesTest {
    private TiesTest() {
    }

    public static void main(String[] args) {
        fractions();
        trains("20,30,60,90,100");
        trains("100,60,40,20");
        angles("10,12,15;11", 1);
        angles("20,15;36,48", 2);
        compounds();
        Check.finish();
    }

    private static void alike(String call, DividingHead x, PlainHead y, long got, long want) {
        Check.due(call, got, want);
        Check.due(call + ": numbers of the row", x.count(8), y.count(8));
        for (int i = 0; i < y.count(8) && i < x.count(8); i++) {
            Check.due(call + ": row(" + i + ")", x.row(i), y.row(i));
        }
    }

    private static void fractions() {
        PlainHead y = new PlainHead();
        for (int m = 1; m <= 9; m++) {
            for (int p = 1; p <= 40; p++) {
                DividingHead x = new DividingHead();
                for (int q = 1; q <= 40; q++) {
                    alike("near(" + p + ", " + q + ", " + m + ")", x, y, x.near(p, q, m), y.near(p, q, m));
                }
            }
        }
    }

    private static void write(PlainHead y, String text) {
        for (int p = 0; p < text.length(); p += 4) {
            int v = 0;
            for (int i = 0; i < 4; i++) {
                v = v << 8 | (p + i < text.length() ? text.charAt(p + i) : 0);
            }
            y.sign(v);
        }
        y.end(text.length());
    }

    private static void trains(String gears) {
        PlainHead y = new PlainHead();
        write(y, gears);
        y.gears();
        for (int p = 1; p <= 60; p++) {
            DividingHead x = new DividingHead();
            Check.gears(x, gears);
            for (int q = 1; q <= 24; q++) {
                alike("nearest(" + p + ", " + q + ") of " + gears, x, y, x.nearest(p, q), y.nearest(p, q));
                alike("train(" + p + ", " + q + ") of " + gears, x, y, x.train(p, q), y.train(p, q));
                int l = 50 * (p + 60 * q - 60);
                if (l <= 20000) {
                    alike("lead(" + l + ") of " + gears, x, y, x.lead(l), y.lead(l));
                }
            }
        }
    }

    private static void angles(String plates, int worm) {
        PlainHead y = new PlainHead();
        write(y, plates);
        y.plates();
        y.sets(0, worm);
        DividingHead x = new DividingHead();
        for (int s = 900; s < 1296000; s += 900) {
            if (s % 360000 == 900) {
                x = new DividingHead();
                Check.plates(x, plates);
                x.sets(0, worm);
            }
            alike("angle(" + s + ") of " + plates, x, y, x.angle(s), y.angle(s));
        }
    }

    private static void compounds() {
        String[] plates = {"10,12,15,20,30,60", "12,18,24,36,48,54", "16,20;24,30;10,15", "12,24,48;12,18,36", "21,28,35,42"};
        for (String text : plates) {
            for (int worm = 1; worm <= 120; worm += worm < 6 ? 1 : 13) {
                DividingHead x = new DividingHead();
                PlainHead y = new PlainHead();
                Check.plates(x, text);
                write(y, text);
                y.plates();
                x.sets(0, worm);
                y.sets(0, worm);
                for (int n = 2; n <= 48; n++) {
                    alike("compound(" + n + ") of " + text + ", worm " + worm, x, y, x.compound(n), y.compound(n));
                }
            }
        }
    }
}
