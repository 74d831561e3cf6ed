import java.util.NoSuchElementException;

/**
 * Two objects after the same calls; what must change nothing is done on one of them alone, then all that
 * can be seen is held together.
 */
final class Twin {
    private static final int NONE = DividingHead.NONE;
    /** years() begins with a cut then: it tells what POSITION is. */
    private static final int CUT_SEED = 3;
    /** It begins with a turn then: it tells what CIRCLE and TRAIN do. */
    private static final int TURN_SEED = 1;

    /** Some calls. */
    interface Calls {
        void on(DividingHead x);
    }

    private Twin() {
    }

    /** A refused call that reads no text: all stays. */
    static void stays(String sentence, Calls before, Calls refused) {
        compare(sentence, before, refused, x -> { });
    }

    /** A refused call that reads THE TEXT: that is empty then, all else stays. */
    static void staysButText(String sentence, Calls before, Calls refused) {
        compare(sentence, before, refused, x -> x.end(0));
    }

    /** A question: all stays but the ROW, which both have of circle(0) then. */
    static void staysButRow(String sentence, Calls before, Calls question) {
        compare(sentence, before, x -> {
            question.on(x);
            x.circle(0);
        }, x -> x.circle(0));
    }

    static void compare(String sentence, Calls before, Calls one, Calls other) {
        DividingHead x = new DividingHead();
        DividingHead y = new DividingHead();
        before.on(x);
        before.on(y);
        one.on(x);
        other.on(y);
        Check.same(sentence, all(x), all(y));
    }

    /** A small outfit in the midst of its work: seven calls to undo, one state kept, a row of four, a text of two signs. */
    static void busy(DividingHead x) {
        Check.plates(x, "15,20;16,24");
        Check.gears(x, "30,40,50,60");
        x.sets(1, 60);
        x.uses(1);
        x.geared(0, 1, NONE, NONE, 1);
        x.cranks(1, 1, 0);
        x.cuts();
        x.keep(1);
        x.cranks(2, 0, 0);
        x.cuts();
        x.mark(1);
        Check.write(x, "cc");
    }

    /** Whatever can be seen, with what can be undone and what is kept; the object is of no use then. */
    static String all(DividingHead x) {
        StringBuilder b = new StringBuilder(now(x));
        for (int i = 0; i < 4; i++) {
            b.append(" undo ").append(x.undo()).append(now(x));
        }
        for (int i = 0; i < 2; i++) {
            b.append(" again ").append(x.again(i)).append(now(x));
        }
        return b.append(" text ").append(x.day()).toString();
    }

    /** The row first: the questions that follow tell others. */
    private static String now(DividingHead x) {
        StringBuilder b = new StringBuilder();
        row(b, x);
        for (int what = 0; what <= 10; what++) {
            b.append(what == 8 ? "" : " " + x.count(what));
        }
        b.append(" circles");
        int circles = Math.min(4, x.count(2));
        for (int k = 0; k < circles; k++) {
            b.append(' ').append(x.circle(k)).append('/').append(x.row(0));
        }
        b.append(" gears");
        int gears = Math.min(4, x.count(3));
        for (int k = 0; k < gears; k++) {
            b.append(' ').append(x.gear(k));
        }
        b.append(" marks");
        int marks = Math.min(4, x.count(6));
        for (int k = 0; k < marks; k++) {
            b.append(' ').append(x.mark(k));
            row(b, x);
        }
        b.append(" years ").append(x.years(CUT_SEED, 1));
        row(b, x);
        b.append(' ').append(x.years(TURN_SEED, 1));
        row(b, x);
        return b.toString();
    }

    static void row(StringBuilder b, DividingHead x) {
        b.append(" [");
        int size = x.count(8);
        for (int i = 0; i < size; i++) {
            b.append(i == 0 ? "" : " ").append(x.row(i));
        }
        b.append(']');
    }

    static boolean rowThrows(DividingHead x, int i) {
        try {
            x.row(i);
            return false;
        } catch (NoSuchElementException e) {
            return true;
        }
    }

    static boolean circleThrows(DividingHead x, int k) {
        try {
            x.circle(k);
            return false;
        } catch (NoSuchElementException e) {
            return true;
        }
    }

    static boolean gearThrows(DividingHead x, int k) {
        try {
            x.gear(k);
            return false;
        } catch (NoSuchElementException e) {
            return true;
        }
    }
}
