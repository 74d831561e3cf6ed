/** Counts and prints answers that are not the ones that are due. */
final class Check {
    private static int wrong = 0;
    private static int asked = 0;

    private Check() {
    }

    static void due(String call, long got, long want) {
        asked++;
        if (got != want) {
            wrong++;
            System.out.println(call + " answered " + got + ", due is " + want);
        }
    }

    static void holds(String what, boolean so) {
        asked++;
        if (!so) {
            wrong++;
            System.out.println("not so: " + what);
        }
    }

    static void same(String what, String got, String want) {
        holds(what + "\n  is  " + got + "\n  due " + want, got.equals(want));
    }

    /** The row, and that it is no longer. */
    static void row(String call, DividingHead x, long... want) {
        due(call + ": numbers of the row", x.count(8), want.length);
        for (int i = 0; i < want.length && i < x.count(8); i++) {
            due(call + ": row(" + i + ")", x.row(i), want[i]);
        }
    }

    /** Writes a text: THE TEXT is just this then. */
    static void write(DividingHead x, String text) {
        x.end(0);
        for (int p = 0; p < text.length(); p += 4) {
            int v = 0;
            for (int i = 0; i < 4; i++) {
                v = v << 8 | (p + i < text.length() ? text.charAt(p + i) & 255 : 0);
            }
            x.sign(v);
        }
        x.end(text.length());
    }

    static int plates(DividingHead x, String text) {
        write(x, text);
        return x.plates();
    }

    static int gears(DividingHead x, String text) {
        write(x, text);
        return x.gears();
    }

    static int day(DividingHead x, String text) {
        write(x, text);
        return x.day();
    }

    static boolean tooManyWrong() {
        return wrong > 50;
    }

    static void finish() {
        System.out.println(asked + " asked, " + wrong + " wrong");
        if (wrong != 0) {
            System.exit(1);
        }
    }
}
