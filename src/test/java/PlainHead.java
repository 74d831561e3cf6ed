import java.math.BigInteger;
import java.util.ArrayList;
import java.util.Arrays;
import java.util.HashMap;
import java.util.HashSet;
import java.util.LinkedList;
import java.util.List;
import java.util.Map;
import java.util.NoSuchElementException;
import java.util.Set;
import java.util.TreeSet;

/**
 * The document's words as plainly as can be, by trying all there is, with numbers of any size: what
 * DividingHead answers is held against it. It shares no code and no way of working with DividingHead.
 */
final class PlainHead {
    /** A fraction of any size. */
    static final class Q implements Comparable<Q> {
        static final Q ZERO = of(0, 1);
        static final Q ONE = of(1, 1);
        final BigInteger up;
        final BigInteger low;

        private Q(BigInteger u, BigInteger l) {
            BigInteger g = u.gcd(l);
            g = l.signum() < 0 ? g.negate() : g;
            up = u.divide(g);
            low = l.divide(g);
        }

        static Q of(long u, long l) {
            return new Q(BigInteger.valueOf(u), BigInteger.valueOf(l));
        }

        Q plus(Q o) {
            return new Q(up.multiply(o.low).add(o.up.multiply(low)), low.multiply(o.low));
        }

        Q minus(Q o) {
            return new Q(up.multiply(o.low).subtract(o.up.multiply(low)), low.multiply(o.low));
        }

        Q times(Q o) {
            return new Q(up.multiply(o.up), low.multiply(o.low));
        }

        Q by(Q o) {
            return new Q(up.multiply(o.low), low.multiply(o.up));
        }

        Q abs() {
            return new Q(up.abs(), low);
        }

        Q round() {
            return new Q(up.mod(low), low);
        }

        boolean isWhole() {
            return low.equals(BigInteger.ONE);
        }

        long floor() {
            return up.subtract(up.mod(low)).divide(low).longValueExact();
        }

        @Override
        public int compareTo(Q o) {
            return up.multiply(o.low).compareTo(o.up.multiply(low));
        }

        @Override
        public boolean equals(Object o) {
            return o instanceof Q && compareTo((Q) o) == 0;
        }

        @Override
        public int hashCode() {
            return up.hashCode() * 31 + low.hashCode();
        }
    }

    static final class Train {
        final int[] wheels;
        final Q ratio;

        Train(Q ratio, int... wheels) {
            this.wheels = wheels;
            this.ratio = ratio;
        }
    }

    static final class State {
        int worm = 40;
        int pitch = 50;
        List<List<Integer>> plates = List.of(List.of(15, 16, 17, 18, 19, 20),
            List.of(21, 23, 27, 29, 31, 33), List.of(37, 39, 41, 43, 47, 49));
        List<Integer> gears = List.of(24, 24, 28, 32, 40, 44, 48, 56, 64, 72, 86, 100);
        int circle = 0;
        Train train = null;
        int side = 0;
        Q position = Q.ZERO;
        TreeSet<Q> marks = new TreeSet<>();

        State copy() {
            State s = new State();
            s.worm = worm;
            s.pitch = pitch;
            s.plates = plates;
            s.gears = gears;
            s.circle = circle;
            s.train = train;
            s.side = side;
            s.position = position;
            s.marks = new TreeSet<>(marks);
            return s;
        }

        void machineAtFirst() {
            circle = 0;
            train = null;
            position = Q.ZERO;
            marks.clear();
        }

        int[][] circles() {
            List<int[]> all = new ArrayList<>();
            for (int p = 0; p < plates.size(); p++) {
                for (int h : plates.get(p)) {
                    all.add(new int[] {h, p});
                }
            }
            return all.toArray(new int[0][]);
        }

        Q onBy(Q x) {
            Q ratio = train == null ? Q.ZERO : train.ratio.times(Q.of(side, 1));
            return x.by(Q.of(worm, 1).minus(ratio));
        }
    }

    private State s = new State();
    private final LinkedList<State> past = new LinkedList<>();
    private final State[] kept = new State[2];
    private final StringBuilder text = new StringBuilder();
    private List<Long> row = new ArrayList<>();
    private List<Integer> trainsOf = null;
    private List<Train> trainList = null;
    private List<Train> firstsOf = null;
    private final Map<Q, Train> firsts = new HashMap<>();

    private void tell(Object... numbers) {
        row = new ArrayList<>();
        for (Object n : numbers) {
            if (n instanceof Q) {
                row.add(((Q) n).up.longValueExact());
                row.add(((Q) n).low.longValueExact());
            } else if (n instanceof int[]) {
                for (int v : (int[]) n) {
                    row.add((long) v);
                }
            } else {
                row.add(((Number) n).longValue());
            }
        }
    }

    private void becomes(State next) {
        past.addLast(s);
        if (past.size() > 7) {
            past.removeFirst();
        }
        s = next;
    }

    int sign(int v) {
        if (text.length() + 4 > 80) {
            return -1;
        }
        for (int shift = 24; shift >= 0; shift -= 8) {
            text.append((char) (v >> shift & 255));
        }
        return text.length();
    }

    boolean end(int n) {
        if (n < 0 || n > text.length()) {
            return false;
        }
        text.setLength(n);
        return true;
    }

    private String takeText() {
        String t = text.toString();
        text.setLength(0);
        return t;
    }

    private static boolean digit(String t, int p) {
        return p < t.length() && "0123456789".indexOf(t.charAt(p)) >= 0;
    }

    int plates() {
        String t = takeText();
        List<List<Integer>> all = new ArrayList<>();
        List<Integer> plate = new ArrayList<>();
        int p = 0;
        while (true) {
            if (!digit(t, p)) {
                return -1 - p;
            }
            if (!digit(t, p + 1)) {
                return -2 - p;
            }
            int v = Integer.parseInt(t.substring(p, p + 2));
            if (v < 10 || v > 70 || !plate.isEmpty() && plate.get(plate.size() - 1) >= v) {
                return -2 - p;
            }
            plate.add(v);
            p += 2;
            if (p == t.length()) {
                all.add(plate);
                break;
            }
            if (t.charAt(p) == ',') {
                if (plate.size() == 6) {
                    return -1 - p;
                }
            } else if (t.charAt(p) == ';') {
                all.add(plate);
                plate = new ArrayList<>();
                if (all.size() == 3) {
                    return -1 - p;
                }
            } else {
                return -1 - p;
            }
            p++;
        }
        State next = s.copy();
        next.plates = all;
        next.machineAtFirst();
        becomes(next);
        return s.circles().length;
    }

    int gears() {
        String t = takeText();
        List<Integer> all = new ArrayList<>();
        int p = 0;
        while (!t.isEmpty()) {
            int from = p;
            while (p < from + 3 && digit(t, p)) {
                p++;
            }
            if (p - from < 2) {
                return -1 - p;
            }
            int v = Integer.parseInt(t.substring(from, p));
            if (v < 20 || v > 100) {
                return -1 - (p - 1);
            }
            all.add(v);
            if (p == t.length()) {
                break;
            }
            if (t.charAt(p) != ',' || all.size() == 12) {
                return -1 - p;
            }
            p++;
        }
        State next = s.copy();
        next.gears = all;
        next.machineAtFirst();
        becomes(next);
        return all.size();
    }

    int sets(int what, int v) {
        if (what == 0 && v >= 1 && v <= 120 || what == 1 && v >= 10 && v <= 100) {
            int was = what == 0 ? s.worm : s.pitch;
            if (was == v) {
                return -2;
            }
            State next = s.copy();
            if (what == 0) {
                next.worm = v;
            } else {
                next.pitch = v;
            }
            next.machineAtFirst();
            becomes(next);
            return was;
        }
        return -1;
    }

    int circle(int k) {
        int[][] all = s.circles();
        if (k < 0 || k >= all.length) {
            throw new NoSuchElementException();
        }
        tell(all[k][1]);
        return all[k][0];
    }

    int gear(int k) {
        if (k < 0 || k >= s.gears.size()) {
            throw new NoSuchElementException();
        }
        return s.gears.get(k);
    }

    // circle, turns, holes of each circle that has a SIMPLE
    private List<int[]> simples(int n) {
        List<int[]> all = new ArrayList<>();
        int[][] circles = s.circles();
        for (int k = 0; k < circles.length; k++) {
            Q holes = Q.of((long) s.worm * circles[k][0], n);
            if (holes.isWhole()) {
                int h = (int) holes.floor();
                all.add(new int[] {k, h / circles[k][0], h % circles[k][0]});
            }
        }
        return all;
    }

    int simple(int n) {
        if (n < 2 || n > 400) {
            return -1;
        }
        List<int[]> all = simples(n);
        if (all.isEmpty()) {
            return -2;
        }
        tell(all.get(0));
        return all.size();
    }

    // sum, both circles, t, a, b: every t, a and b are tried
    private int[] compounds(int n) {
        int[][] circles = s.circles();
        int[] best = null;
        for (int i = 0; i < circles.length; i++) {
            for (int j = i + 1; j < circles.length; j++) {
                if (circles[i][1] != circles[j][1]) {
                    continue;
                }
                int h = circles[i][0];
                int k = circles[j][0];
                for (int a = 1; a < h; a++) {
                    for (int b = 1 - k; b < k; b++) {
                        // t by itself: (worm/n - a/h - b/k) must be whole and 0 or more
                        long upper = (long) s.worm * h * k - (long) n * a * k - (long) n * b * h;
                        long lower = (long) n * h * k;
                        if (b == 0 || upper < 0 || upper % lower != 0) {
                            continue;
                        }
                        int sum = a + Math.abs(b);
                        if (best == null || sum < best[0]) {
                            best = new int[] {sum, i, j, (int) (upper / lower), a, b};
                        }
                    }
                }
            }
        }
        return best;
    }

    int compound(int n) {
        if (n < 2 || n > 400) {
            return -1;
        }
        int[] best = compounds(n);
        if (best == null) {
            return -2;
        }
        tell(Arrays.copyOfRange(best, 1, 6));
        return best[0];
    }

    private List<Train> trains() {
        if (s.gears.equals(trainsOf)) {
            return trainList;
        }
        trainsOf = s.gears;
        trainList = new ArrayList<>();
        int n = s.gears.size();
        for (int a = 0; a < n; a++) {
            for (int b = 0; b < n; b++) {
                if (a != b) {
                    trainList.add(new Train(Q.of(s.gears.get(a), s.gears.get(b)), a, b));
                }
            }
        }
        for (int a = 0; a < n; a++) {
            for (int b = 0; b < n; b++) {
                for (int c = 0; c < n; c++) {
                    for (int d = 0; d < n; d++) {
                        if (a != b && a != c && a != d && b != c && b != d && c != d) {
                            trainList.add(new Train(Q.of((long) s.gears.get(a) * s.gears.get(c),
                                (long) s.gears.get(b) * s.gears.get(d)), a, b, c, d));
                        }
                    }
                }
            }
        }
        return trainList;
    }

    private Train firstTrain(Q ratio) {
        List<Train> all = trains();
        if (firstsOf != all) {
            firstsOf = all;
            firsts.clear();
            for (Train t : all) {
                firsts.putIfAbsent(t.ratio, t);
            }
        }
        return firsts.get(ratio);
    }

    // m, circle, t, h, the train, the side
    private Object[] differentials(int n) {
        for (int d = 1; d <= 20; d++) {
            for (int side = -1; side <= 1; side += 2) {
                int m = n + side * d;
                if (m < 2) {
                    continue;
                }
                List<int[]> simple = simples(m);
                if (simple.isEmpty()) {
                    continue;
                }
                Train t = firstTrain(Q.of((long) s.worm * d, m));
                if (t != null) {
                    return new Object[] {m, simple.get(0), t, side};
                }
            }
        }
        return null;
    }

    int differential(int n) {
        if (n < 2 || n > 400) {
            return -1;
        }
        Object[] d = differentials(n);
        if (d == null) {
            return -2;
        }
        int[] four = {-1, -1, -1, -1};
        int[] wheels = ((Train) d[2]).wheels;
        System.arraycopy(wheels, 0, four, 0, wheels.length);
        tell(d[1], four, d[3]);
        return (Integer) d[0];
    }

    int ways(int n) {
        if (n < 2 || n > 400) {
            return -1;
        }
        int one = simples(n).isEmpty() ? 0 : 1;
        int two = compounds(n) == null ? 0 : 1;
        int three = differentials(n) == null ? 0 : 1;
        tell(one + two + three);
        return one + 2 * two + 4 * three;
    }

    int hard(int low, int high) {
        if (low < 2 || high > 400 || low > high || high - low + 1 > 60) {
            return -1;
        }
        int first = -1;
        int many = 0;
        int c = 0;
        int d = 0;
        int neither = 0;
        for (int n = high; n >= low; n--) {
            if (simples(n).isEmpty()) {
                first = n;
                many++;
                boolean hasC = compounds(n) != null;
                boolean hasD = differentials(n) != null;
                c += hasC ? 1 : 0;
                d += hasD ? 1 : 0;
                neither += !hasC && !hasD ? 1 : 0;
            }
        }
        tell(first, c, d, neither);
        return many;
    }

    int train(int p, int q) {
        if (p < 1 || p > 400 || q < 1 || q > 400) {
            return -1;
        }
        Train t = firstTrain(Q.of(p, q));
        if (t == null) {
            return -2;
        }
        tell(t.wheels);
        return t.wheels.length;
    }

    private int closest(Q target, Q product) {
        Train best = null;
        Q bestValue = null;
        for (Train t : trains()) {
            Q value = product == null ? t.ratio : product.by(t.ratio);
            if (best == null) {
                best = t;
                bestValue = value;
                continue;
            }
            int c = value.minus(target).abs().compareTo(bestValue.minus(target).abs());
            if (c < 0 || c == 0 && value.compareTo(bestValue) < 0) {
                best = t;
                bestValue = value;
            }
        }
        if (best == null) {
            return -2;
        }
        tell(best.wheels, bestValue, bestValue.minus(target).abs());
        return best.wheels.length;
    }

    int nearest(int p, int q) {
        return p < 1 || p > 400 || q < 1 || q > 400 ? -1 : closest(Q.of(p, q), null);
    }

    int lead(int l) {
        return l < 1 || l > 20000 ? -1 : closest(Q.of(l, 1), Q.of(s.worm * s.pitch, 1));
    }

    int ratios() {
        TreeSet<Q> all = new TreeSet<>();
        for (Train t : trains()) {
            all.add(t.ratio);
        }
        if (all.isEmpty()) {
            return -2;
        }
        tell(all.first(), all.last());
        return all.size();
    }

    int near(int p, int q, int m) {
        if (p < 1 || q < 1 || p > 100000 || q > 100000 || m < 1 || m > 1000) {
            return -1;
        }
        Q target = Q.of(p, q);
        Q best = Q.ZERO;
        for (int low = 1; low <= m; low++) {
            long about = (long) p * low / q;
            for (long up = Math.max(0, about - 1); up <= about + 2; up++) {
                Q f = Q.of(up, low);
                int c = f.minus(target).abs().compareTo(best.minus(target).abs());
                if (c < 0 || c == 0 && f.compareTo(best) < 0) {
                    best = f;
                }
            }
        }
        tell(best, best.minus(target).abs());
        return best.equals(Q.ZERO) ? 0 : walk(best.up.longValueExact(), best.low.longValueExact()).size();
    }

    /** The tree, walked as the document tells it, by the fractions on both sides. */
    private static List<Integer> walk(long p, long q) {
        List<Integer> steps = new ArrayList<>();
        long lessUp = 0;
        long lessLow = 1;
        long moreUp = 1;
        long moreLow = 0;
        long up = 1;
        long low = 1;
        while (up * q != p * low) {
            if (p * low > up * q) {
                steps.add(1);
                lessUp = up;
                lessLow = low;
            } else {
                steps.add(0);
                moreUp = up;
                moreLow = low;
            }
            up = lessUp + moreUp;
            low = lessLow + moreLow;
        }
        return steps;
    }

    int tree(int p, int q) {
        if (p < 1 || p > 400 || q < 1 || q > 400) {
            return -1;
        }
        List<Integer> steps = walk(p, q);
        tell(steps.subList(0, Math.min(60, steps.size())).toArray());
        return steps.size();
    }

    int angle(int seconds) {
        if (seconds < 1 || seconds > 1295999) {
            return -1;
        }
        int[][] circles = s.circles();
        Q target = Q.of(seconds, 1);
        Q best = null;
        int[] how = null;
        for (int k = 0; k < circles.length; k++) {
            int h = circles[k][0];
            Q one = Q.of(1296000, (long) h * s.worm);
            long about = target.by(one).floor();
            for (long holes = Math.max(0, about - 1); holes <= about + 2; holes++) {
                Q a = one.times(Q.of(holes, 1));
                int c = best == null ? -1 : a.minus(target).abs().compareTo(best.minus(target).abs());
                if (c < 0 || c == 0 && a.compareTo(best) < 0) {
                    best = a;
                    how = new int[] {k, (int) (holes / h), (int) (holes % h)};
                }
            }
        }
        tell(how, best.minus(target).abs());
        return best.equals(target) ? 1 : 0;
    }

    // ---- the machine: each act on a state, with the answer it has

    private int actUses(State m, int k) {
        if (k < 0 || k >= m.circles().length) {
            return -1;
        }
        if (k == m.circle) {
            return -2;
        }
        int was = m.circle;
        m.circle = k;
        return was;
    }

    private int actGeared(State m, int side, int... wheels) {
        Set<Integer> unlike = new HashSet<>();
        long up = 1;
        long low = 1;
        for (int i = 0; i < wheels.length; i++) {
            if (wheels[i] < 0 || wheels[i] >= m.gears.size() || !unlike.add(wheels[i])) {
                return -1;
            }
            up *= i % 2 == 0 ? m.gears.get(wheels[i]) : 1;
            low *= i % 2 == 1 ? m.gears.get(wheels[i]) : 1;
        }
        if (side != 1 && side != -1) {
            return -1;
        }
        Q ratio = Q.of(up, low);
        if (ratio.times(Q.of(side, 1)).equals(Q.of(m.worm, 1))) {
            return -4;
        }
        m.train = new Train(ratio, wheels);
        m.side = side;
        return wheels.length;
    }

    private int actUngeared(State m) {
        if (m.train == null) {
            return -2;
        }
        int was = m.train.wheels.length;
        m.train = null;
        return was;
    }

    private int actCranks(State m, int t, int h, int back) {
        int holes = m.circles()[m.circle][0];
        if (t < 0 || t > 99 || h < 0 || h >= holes || back < 0 || back > 1) {
            return -1;
        }
        Q way = m.onBy(Q.of(t, 1).plus(Q.of(h, holes)));
        Q to = (back == 0 ? m.position.plus(way) : m.position.minus(way)).round();
        if (to.low.compareTo(BigInteger.valueOf(1000000000)) > 0) {
            return -4;
        }
        m.position = to;
        return 0;
    }

    private int actCuts(State m) {
        if (m.marks.contains(m.position)) {
            return -2;
        }
        if (m.marks.size() == 60) {
            return -3;
        }
        m.marks.add(m.position);
        return m.marks.size();
    }

    private int actWipes(State m) {
        int was = m.marks.size();
        m.marks.clear();
        m.position = Q.ZERO;
        return was;
    }

    private int settle(State next, int answer) {
        if (answer >= 0) {
            becomes(next);
        }
        return answer;
    }

    int uses(int k) {
        State next = s.copy();
        return settle(next, actUses(next, k));
    }

    int geared(int a, int b, int c, int d, int side) {
        State next = s.copy();
        int answer = c == -1 && d == -1 ? actGeared(next, side, a, b) : actGeared(next, side, a, b, c, d);
        if (answer >= 0) {
            tell(next.train.ratio);
        }
        return settle(next, answer);
    }

    int ungeared() {
        State next = s.copy();
        return settle(next, actUngeared(next));
    }

    int cranks(int t, int h, int back) {
        State next = s.copy();
        int answer = settle(next, actCranks(next, t, h, back));
        if (answer >= 0) {
            tell(s.position);
        }
        return answer;
    }

    int cuts() {
        State next = s.copy();
        return settle(next, actCuts(next));
    }

    int wipes() {
        State next = s.copy();
        return settle(next, actWipes(next));
    }

    int divides(int n, int way) {
        if (n < 2 || n > 60 || way < 0 || way > 2) {
            return -1;
        }
        State next = s.copy();
        actWipes(next);
        actUngeared(next);
        int[][] steps;
        if (way == 0) {
            List<int[]> all = simples(n);
            if (all.isEmpty()) {
                return -2;
            }
            steps = new int[][] {all.get(0)};
        } else if (way == 1) {
            int[] c = compounds(n);
            if (c == null) {
                return -2;
            }
            steps = new int[][] {{c[1], c[3], c[4]}, {c[2], 0, c[5]}};
        } else {
            Object[] d = differentials(n);
            if (d == null) {
                return -2;
            }
            steps = new int[][] {(int[]) d[1]};
            actGeared(next, (Integer) d[3], ((Train) d[2]).wheels);
        }
        for (int i = 0; i < n; i++) {
            actCuts(next);
            for (int[] step : steps) {
                actUses(next, step[0]);
                actCranks(next, step[1], Math.abs(step[2]), step[2] < 0 ? 1 : 0);
            }
        }
        becomes(next);
        tell(s.position.equals(Q.ZERO) ? 1 : 0, new HashSet<>(gapList()).size() == 1 ? 1 : 0);
        return s.marks.size();
    }

    private List<Q> gapList() {
        List<Q> all = new ArrayList<>();
        List<Q> marks = new ArrayList<>(s.marks);
        for (int i = 0; i < marks.size(); i++) {
            Q next = i + 1 < marks.size() ? marks.get(i + 1) : marks.get(0).plus(Q.ONE);
            all.add(next.minus(marks.get(i)));
        }
        return all;
    }

    int mark(int k) {
        if (k < 0 || k >= s.marks.size()) {
            return -1;
        }
        tell(new ArrayList<>(s.marks).get(k), gapList().get(k));
        return 0;
    }

    int gaps() {
        TreeSet<Q> all = new TreeSet<>(gapList());
        if (all.isEmpty()) {
            return -2;
        }
        tell(all.first(), all.last());
        return all.size();
    }

    int missing(int n) {
        if (n < 1 || n > 400) {
            return -1;
        }
        int first = -1;
        int many = 0;
        Set<Q> others = new HashSet<>(s.marks);
        for (int i = n - 1; i >= 0; i--) {
            if (!others.remove(Q.of(i, n))) {
                first = i;
                many++;
            }
        }
        if (many == 0) {
            tell(others.size());
        } else {
            tell(first, others.size());
        }
        return many;
    }

    int reaches() {
        int holes = s.circles()[s.circle][0];
        Q step = s.onBy(Q.of(1, holes));
        // over one lower number for all, so that 20000 steps go fast
        BigInteger all = step.low.multiply(s.position.low);
        List<Q> marks = new ArrayList<>(s.marks);
        for (Q m : marks) {
            all = all.divide(all.gcd(m.low)).multiply(m.low);
        }
        List<BigInteger> at = new ArrayList<>();
        for (Q m : marks) {
            at.add(m.up.multiply(all.divide(m.low)));
        }
        BigInteger place = s.position.up.multiply(all.divide(s.position.low));
        BigInteger one = step.up.multiply(all.divide(step.low));
        if (marks.isEmpty()) {
            return -2;
        }
        for (int k = 1; k <= 20000; k++) {
            place = place.add(one).mod(all);
            int which = at.indexOf(place);
            if (which >= 0) {
                tell(which);
                return k;
            }
        }
        return -2;
    }

    int day() {
        String t = takeText();
        List<String> acts = new ArrayList<>();
        int p = 0;
        while (p < t.length()) {
            String shape;
            switch (t.charAt(p)) {
                case 'u': shape = "u##"; break;
                case 't': shape = "t####"; break;
                case 'b': shape = "b####"; break;
                case 'g': shape = "g####+"; break;
                case 'c': shape = "c"; break;
                case 'w': shape = "w"; break;
                case 'o': shape = "o"; break;
                default: return -1 - p;
            }
            for (int i = 1; i < shape.length(); i++) {
                boolean fits = shape.charAt(i) == '#' ? digit(t, p + i)
                    : p + i < t.length() && "+-".indexOf(t.charAt(p + i)) >= 0;
                if (!fits) {
                    return -1 - (p + i);
                }
            }
            acts.add(t.substring(p, p + shape.length()));
            p += shape.length();
        }
        State next = s.copy();
        int done = 0;
        for (String act : acts) {
            if (doAct(next, act) < 0) {
                break;
            }
            done++;
        }
        if (done > 0) {
            becomes(next);
        }
        tell(done < acts.size() ? 1 : 0, s.marks.size());
        return done;
    }

    private int doAct(State m, String act) {
        int one = act.length() >= 3 ? Integer.parseInt(act.substring(1, 3)) : 0;
        int two = act.length() >= 5 ? Integer.parseInt(act.substring(3, 5)) : 0;
        switch (act.charAt(0)) {
            case 'u': return actUses(m, one);
            case 't': return actCranks(m, one, two, 0);
            case 'b': return actCranks(m, one, two, 1);
            case 'g': return actGeared(m, act.endsWith("+") ? 1 : -1, one, two);
            case 'c': return actCuts(m);
            case 'w': return actWipes(m);
            default: return actUngeared(m);
        }
    }

    int undo() {
        if (past.isEmpty()) {
            return -1;
        }
        s = past.removeLast();
        return past.size();
    }

    private long r;

    private int draw(int n) {
        r = r * 1103515245L + 12345L & 0xFFFFFFFFL;
        return (int) (r / 65536 % n);
    }

    int years(int seed, int n) {
        if (n < 1 || n > 30) {
            return -1;
        }
        State m = s.copy();
        r = seed & 0xFFFFFFFFL;
        for (int i = 0; i < n; i++) {
            switch (draw(4)) {
                case 0:
                    actUses(m, draw(m.circles().length));
                    break;
                case 3:
                    actCuts(m);
                    break;
                default:
                    int t = draw(5);
                    actCranks(m, t, draw(m.circles()[m.circle][0]), 0);
            }
        }
        tell(m.position);
        return m.marks.size();
    }

    boolean keep(int i) {
        if (i != 0 && i != 1) {
            return false;
        }
        kept[i] = s.copy();
        return true;
    }

    boolean again(int i) {
        if (i != 0 && i != 1 || kept[i] == null) {
            return false;
        }
        s = kept[i].copy();
        past.clear();
        return true;
    }

    int count(int what) {
        int[] all = {s.worm, s.pitch, s.circles().length, s.gears.size(), s.circle,
            s.train == null ? 0 : s.train.wheels.length, s.marks.size(), past.size(), row.size(),
            text.length(), s.plates.size()};
        return what >= 0 && what < all.length ? all[what] : -1;
    }

    long row(int i) {
        if (i < 0 || i >= row.size()) {
            throw new NoSuchElementException();
        }
        return row.get(i);
    }
}
