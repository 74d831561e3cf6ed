import java.util.Arrays;
import java.util.NoSuchElementException;

/** A head that divides a circle; ../shared/DOC.md tells what each call does. */
public final class DividingHead {
    public static final int NONE = -1;

    private static final int NOTHING = -2;
    private static final int FULL = -3;
    private static final int UNFIT = -4;

    private static final int MOST_PLATES = 3;
    private static final int MOST_IN_PLATE = 6;
    private static final int MOST_CIRCLES = 18;
    private static final int MOST_GEARS = 12;
    private static final int MOST_MARKS = 60;
    private static final int MOST_UNDONE = 7;
    private static final int MOST_TOLD = 60;
    private static final int MOST_SIGNS = 80;
    private static final int MOST_REACHED = 20000;
    private static final int ALL_ROUND = 1296000;
    private static final long MOST_LOWER = 1000000000L;
    /** Far above the steps that Euclid's way needs for two longs. */
    private static final int EUCLID_STEPS = 200;

    private static final int[] FIRST_HOLES = {
        15, 16, 17, 18, 19, 20, 21, 23, 27, 29, 31, 33, 37, 39, 41, 43, 47, 49};
    private static final int[] FIRST_TEETH = {
        24, 24, 28, 32, 40, 44, 48, 56, 64, 72, 86, 100};

    private final Text text = new Text();
    private final Told told = new Told();
    private final SimpleWay simpleWay = new SimpleWay();
    private final CompoundWay compoundWay = new CompoundWay();
    private final DifferentialWay differentialWay = new DifferentialWay();
    private final GapList gapList = new GapList();
    private final Fraction found = new Fraction();
    private final Fraction off = new Fraction();
    private final Head[] past = new Head[MOST_UNDONE];
    private final Head[] kept = new Head[2];
    private int pastTotal = 0;
    private int drawn = 0;
    private Head now = new Head();
    private Head trial = new Head();
    private Shelf shelf = null;

    public DividingHead() {
        now.fillAtFirst();
    }

    // ---- the text

    public int sign(int v) {
        return text.addFour(v) ? text.size : NONE;
    }

    public boolean end(int n) {
        if (n < 0 || n > text.size) {
            return false;
        }
        text.size = n;
        return true;
    }

    public int plates() {
        trial.copyFrom(now);
        int answer = readPlates();
        text.size = 0;
        return adopt(answer);
    }

    public int gears() {
        trial.copyFrom(now);
        int answer = readGears();
        text.size = 0;
        return adopt(answer);
    }

    private int readPlates() {
        trial.dropPlates();
        trial.atFirst();
        int inPlate = 0;
        int before = 0;
        for (int p = 0; p <= text.size; p += 3) {
            int wrong = text.firstNoDigit(p, 2);
            if (wrong != NONE) {
                return -1 - wrong;
            }
            int holes = text.number(p, 2);
            if (holes < 10 || holes > 70 || holes <= before) {
                return -1 - (p + 1);
            }
            trial.addCircle(holes);
            inPlate++;
            before = holes;
            if (p + 2 == text.size) {
                return trial.circleTotal;
            }
            int between = text.at(p + 2);
            if (between == ';' && trial.plateTotal < MOST_PLATES) {
                trial.plateTotal++;
                inPlate = 0;
                before = 0;
            } else if (between != ',' || inPlate >= MOST_IN_PLATE) {
                return -1 - (p + 2);
            }
        }
        return -1 - text.size;
    }

    private int readGears() {
        trial.gearTotal = 0;
        trial.atFirst();
        if (text.size == 0) {
            return 0;
        }
        int p = 0;
        for (int i = 0; i < MOST_GEARS; i++) {
            int wrong = text.firstNoDigit(p, 2);
            if (wrong != NONE) {
                return -1 - wrong;
            }
            int digits = text.isDigit(p + 2) ? 3 : 2;
            int teeth = text.number(p, digits);
            if (teeth < 20 || teeth > 100) {
                return -1 - (p + digits - 1);
            }
            trial.addGear(teeth);
            p += digits;
            if (p == text.size) {
                return trial.gearTotal;
            }
            if (text.at(p) != ',' || trial.gearTotal >= MOST_GEARS) {
                return -1 - p;
            }
            p++;
        }
        return -1 - p;
    }

    public int sets(int what, int v) {
        trial.copyFrom(now);
        return adopt(trial.setTo(what, v));
    }

    public int circle(int k) throws NoSuchElementException {
        if (!now.isCircle(k)) {
            throw new NoSuchElementException();
        }
        told.clear();
        told.add(now.plateOf(k));
        return now.holesOf(k);
    }

    public int gear(int k) throws NoSuchElementException {
        if (!now.isGear(k)) {
            throw new NoSuchElementException();
        }
        return now.teethOf(k);
    }

    // ---- ways to divide

    public int simple(int n) {
        if (!isParts(n)) {
            return NONE;
        }
        simpleWay.look(now, n);
        if (simpleWay.many == 0) {
            return NOTHING;
        }
        told.clear();
        told.add(simpleWay.first);
        told.add(simpleWay.turns);
        told.add(simpleWay.holes);
        return simpleWay.many;
    }

    public int compound(int n) {
        if (!isParts(n)) {
            return NONE;
        }
        compoundWay.look(now, n);
        if (compoundWay.sum == 0) {
            return NOTHING;
        }
        told.clear();
        told.add(compoundWay.first);
        told.add(compoundWay.second);
        told.add(compoundWay.turns);
        told.add(compoundWay.a);
        told.add(compoundWay.b);
        return compoundWay.sum;
    }

    public int differential(int n) {
        if (!isParts(n)) {
            return NONE;
        }
        Shelf trains = fittedShelf();
        differentialWay.look(now, trains, n);
        if (differentialWay.number == 0) {
            return NOTHING;
        }
        told.clear();
        told.add(differentialWay.nearWay.first);
        told.add(differentialWay.nearWay.turns);
        told.add(differentialWay.nearWay.holes);
        for (int i = 0; i < 4; i++) {
            told.add(trains.wheel(differentialWay.entry, i));
        }
        told.add(differentialWay.side);
        return differentialWay.number;
    }

    public int ways(int n) {
        if (!isParts(n)) {
            return NONE;
        }
        int bits = 0;
        for (int way = 0; way < 3; way++) {
            bits |= hasWay(n, way) ? 1 << way : 0;
        }
        told.clear();
        told.add(Integer.bitCount(bits));
        return bits;
    }

    public int hard(int low, int high) {
        if (!isParts(low) || !isParts(high) || low > high || high - low >= 60) {
            return NONE;
        }
        int first = NONE;
        int many = 0;
        int byCompound = 0;
        int byDifferential = 0;
        int byNeither = 0;
        for (int n = low; n <= high; n++) {
            if (!hasWay(n, 0)) {
                first = many == 0 ? n : first;
                many++;
                boolean compounds = hasWay(n, 1);
                boolean differs = hasWay(n, 2);
                byCompound += compounds ? 1 : 0;
                byDifferential += differs ? 1 : 0;
                byNeither += compounds || differs ? 0 : 1;
            }
        }
        told.clear();
        told.add(first);
        told.add(byCompound);
        told.add(byDifferential);
        told.add(byNeither);
        return many;
    }

    private static boolean isParts(int n) {
        return n >= 2 && n <= 400;
    }

    /** The way that was looked for stays in simpleWay, compoundWay or differentialWay. */
    private boolean hasWay(int n, int way) {
        if (way == 0) {
            simpleWay.look(now, n);
            return simpleWay.many > 0;
        }
        if (way == 1) {
            compoundWay.look(now, n);
            return compoundWay.sum > 0;
        }
        differentialWay.look(now, fittedShelf(), n);
        return differentialWay.number > 0;
    }

    /** Made late, as it is the one large thing here and many runs need no trains. */
    private Shelf fittedShelf() {
        if (shelf == null) {
            shelf = new Shelf();
        }
        shelf.fit(now);
        return shelf;
    }

    // ---- gears, fractions

    public int train(int p, int q) {
        if (!isBetween(p, 1, 400) || !isBetween(q, 1, 400)) {
            return NONE;
        }
        Shelf trains = fittedShelf();
        int entry = trains.find(p, q);
        if (entry < 0) {
            return NOTHING;
        }
        told.clear();
        return tellWheels(trains, entry);
    }

    public int nearest(int p, int q) {
        if (!isBetween(p, 1, 400) || !isBetween(q, 1, 400)) {
            return NONE;
        }
        return tellClosest(0, p, q);
    }

    public int ratios() {
        Shelf trains = fittedShelf();
        if (trains.size == 0) {
            return NOTHING;
        }
        told.clear();
        int least = trains.extreme(-1);
        told.add(trains.up(least));
        told.add(trains.low(least));
        int greatest = trains.extreme(1);
        told.add(trains.up(greatest));
        told.add(trains.low(greatest));
        return trains.size;
    }

    public int lead(int l) {
        if (!isBetween(l, 1, 20000)) {
            return NONE;
        }
        return tellClosest((long) now.worm * now.pitch, l, 1);
    }

    /** The train whose ratio (or, with a product above 0, the product by its ratio) is nearest to p by q. */
    private int tellClosest(long product, long p, long q) {
        Shelf trains = fittedShelf();
        if (trains.size == 0) {
            return NOTHING;
        }
        int entry = trains.closest(product, p, q);
        told.clear();
        int wheels = tellWheels(trains, entry);
        found.put(trains.upper(product, entry), trains.lower(product, entry));
        told.addFraction(found);
        off.put(Math.abs(found.up * q - p * found.low), found.low * q);
        told.addFraction(off);
        return wheels;
    }

    private int tellWheels(Shelf trains, int entry) {
        int wheels = trains.wheelTotal(entry);
        for (int i = 0; i < wheels; i++) {
            told.add(trains.wheel(entry, i));
        }
        return wheels;
    }

    public int near(int p, int q, int m) {
        if (!isBetween(p, 1, 100000) || !isBetween(q, 1, 100000) || !isBetween(m, 1, 1000)) {
            return NONE;
        }
        findNear(p, q, m);
        told.clear();
        told.addFraction(found);
        off.put(Math.abs(p * found.low - found.up * q), q * found.low);
        told.addFraction(off);
        return treeSteps(found.up, found.low);
    }

    /** Leaves the fraction in found. */
    private void findNear(long p, long q, int m) {
        if (q <= 0) {
            return;
        }
        long bestUp = 0;
        long bestLow = 1;
        long bestOff = p;
        for (long low = 1; low <= m && bestOff != 0; low++) {
            long floor = p * low / q;
            for (long up = floor; up <= floor + 1; up++) {
                long far = Math.abs(p * low - up * q);
                long less = far * bestLow - bestOff * low;
                if (less < 0 || less == 0 && up * bestLow < bestUp * low) {
                    bestUp = up;
                    bestLow = low;
                    bestOff = far;
                }
            }
        }
        found.put(bestUp, bestLow);
    }

    /** Each of Euclid's quotients is a run of steps to one side; the tree begins one step in. */
    private static int treeSteps(long up, long low) {
        if (up == 0) {
            return 0;
        }
        long steps = 0;
        long x = up;
        long y = low;
        for (int i = 0; i < EUCLID_STEPS && y != 0; i++) {
            steps += x / y;
            long rest = x % y;
            x = y;
            y = rest;
        }
        return (int) (steps - 1);
    }

    public int tree(int p, int q) {
        if (!isBetween(p, 1, 400) || !isBetween(q, 1, 400)) {
            return NONE;
        }
        found.put(p, q);
        long up = found.up;
        long low = found.low;
        told.clear();
        int steps = 0;
        for (int i = 0; i < 800 && up != low; i++) {
            if (up > low) {
                told.add(1);
                up -= low;
            } else {
                told.add(0);
                low -= up;
            }
            steps++;
        }
        return steps;
    }

    public int angle(int s) {
        if (!isBetween(s, 1, ALL_ROUND - 1)) {
            return NONE;
        }
        int best = NONE;
        long bestHoles = 0;
        long bestAll = 1;
        long bestOff = 0;
        for (int k = 0; k < now.circleTotal; k++) {
            long all = (long) now.holesOf(k) * now.worm;
            long below = s * all / ALL_ROUND;
            for (long holes = below; holes <= below + 1; holes++) {
                long far = Math.abs(holes * ALL_ROUND - s * all);
                long less = far * bestAll - bestOff * all;
                if (best == NONE || less < 0 || less == 0 && holes * bestAll < bestHoles * all) {
                    best = k;
                    bestHoles = holes;
                    bestAll = all;
                    bestOff = far;
                }
            }
        }
        tellAngle(best, bestHoles);
        off.put(bestOff, bestAll);
        told.addFraction(off);
        return bestOff == 0 ? 1 : 0;
    }

    private void tellAngle(int k, long holes) {
        int round = now.holesOf(k);
        told.clear();
        told.add(k);
        told.add(round == 0 ? 0 : holes / round);
        told.add(round == 0 ? 0 : holes % round);
    }

    // ---- the machine

    public int uses(int k) {
        trial.copyFrom(now);
        return adopt(trial.choose(k));
    }

    public int geared(int a, int b, int c, int d, int side) {
        trial.copyFrom(now);
        int answer = adopt(trial.putIn(a, b, c, d, side));
        if (answer >= 0) {
            told.clear();
            told.addFraction(now.ratio);
        }
        return answer;
    }

    public int ungeared() {
        trial.copyFrom(now);
        return adopt(trial.takeOut());
    }

    public int cranks(int t, int h, int back) {
        trial.copyFrom(now);
        int answer = adopt(trial.wind(t, h, back));
        if (answer >= 0) {
            told.clear();
            told.addFraction(now.place);
        }
        return answer;
    }

    public int cuts() {
        trial.copyFrom(now);
        return adopt(trial.scribe());
    }

    public int wipes() {
        trial.copyFrom(now);
        return adopt(trial.wipeAll());
    }

    public int divides(int n, int way) {
        if (!isBetween(n, 2, MOST_MARKS) || !isBetween(way, 0, 2)) {
            return NONE;
        }
        if (!hasWay(n, way)) {
            return NOTHING;
        }
        trial.copyFrom(now);
        trial.wipeAll();
        trial.takeOut();
        if (way == 2) {
            putInDifferential();
        }
        for (int i = 0; i < n; i++) {
            trial.scribe();
            windWay(way);
        }
        adopt(0);
        gapList.look(now);
        told.clear();
        told.add(now.place.up == 0 ? 1 : 0);
        told.add(gapList.kinds == 1 ? 1 : 0);
        return now.markTotal;
    }

    private void putInDifferential() {
        Shelf trains = fittedShelf();
        int entry = differentialWay.entry;
        trial.putIn(trains.wheel(entry, 0), trains.wheel(entry, 1),
            trains.wheel(entry, 2), trains.wheel(entry, 3), differentialWay.side);
    }

    private void windWay(int way) {
        if (way == 1) {
            trial.choose(compoundWay.first);
            trial.wind(compoundWay.turns, compoundWay.a, 0);
            trial.choose(compoundWay.second);
            trial.wind(0, Math.abs(compoundWay.b), compoundWay.b < 0 ? 1 : 0);
        } else {
            SimpleWay one = way == 0 ? simpleWay : differentialWay.nearWay;
            trial.choose(one.first);
            trial.wind(one.turns, one.holes, 0);
        }
    }

    public int mark(int k) {
        if (!now.isMark(k)) {
            return NONE;
        }
        told.clear();
        told.add(now.markUp(k));
        told.add(now.markLow(k));
        now.gapBehind(k, found);
        told.addFraction(found);
        return 0;
    }

    public int gaps() {
        if (now.markTotal == 0) {
            return NOTHING;
        }
        gapList.look(now);
        told.clear();
        gapList.tellExtreme(told, -1);
        gapList.tellExtreme(told, 1);
        return gapList.kinds;
    }

    public int missing(int n) {
        if (!isBetween(n, 1, 400)) {
            return NONE;
        }
        int met = 0;
        int firstOpen = 0;
        for (int k = 0; k < now.markTotal; k++) {
            long low = now.markLow(k);
            if (low > 0 && n % low == 0) {
                met++;
                // marks rise, so the first open one lies behind the run that has no hole yet
                firstOpen += now.markUp(k) * (n / low) == firstOpen ? 1 : 0;
            }
        }
        told.clear();
        if (met < n) {
            told.add(firstOpen);
        }
        told.add(now.markTotal - met);
        return n - met;
    }

    public int reaches() {
        now.stepOfHole(found);
        long round = found.low;
        long unit = inverse(found.up, round);
        long best = MOST_REACHED + 1;
        int which = NONE;
        for (int k = 0; k < now.markTotal; k++) {
            now.wayToMark(k, off);
            if (off.low > 0 && round > 0 && round % off.low == 0) {
                long holes = off.up * (round / off.low) * unit % round;
                holes = holes == 0 ? round : holes;
                if (holes < best) {
                    best = holes;
                    which = k;
                }
            }
        }
        if (which == NONE) {
            return NOTHING;
        }
        told.clear();
        told.add(which);
        return (int) best;
    }

    // ---- days

    public int day() {
        int wrong = firstWrongOfDay();
        if (wrong != NONE) {
            text.size = 0;
            return -1 - wrong;
        }
        trial.copyFrom(now);
        int done = 0;
        int stuck = 0;
        int p = 0;
        for (int i = 0; i < MOST_SIGNS && p < text.size && stuck == 0; i++) {
            if (doAct(p) < 0) {
                stuck = 1;
            } else {
                done++;
                p += lengthOfAct(text.at(p));
            }
        }
        text.size = 0;
        if (done > 0) {
            adopt(done);
        }
        told.clear();
        told.add(stuck);
        told.add(now.markTotal);
        return done;
    }

    /** Where the first sign stands that can't be in a day, or NONE. */
    private int firstWrongOfDay() {
        int p = 0;
        for (int i = 0; i < MOST_SIGNS && p < text.size; i++) {
            int letter = text.at(p);
            int length = lengthOfAct(letter);
            if (length == 0) {
                return p;
            }
            int digits = letter == 'g' ? 4 : length - 1;
            int wrong = text.firstNoDigit(p + 1, digits);
            if (wrong != NONE) {
                return wrong;
            }
            if (letter == 'g' && text.at(p + 5) != '+' && text.at(p + 5) != '-') {
                return p + 5;
            }
            p += length;
        }
        return NONE;
    }

    /** How many signs an act has, its letter among them; 0 for what is no act's letter. */
    private static int lengthOfAct(int letter) {
        switch (letter) {
            case 'c':
            case 'w':
            case 'o':
                return 1;
            case 'u':
                return 3;
            case 't':
            case 'b':
                return 5;
            case 'g':
                return 6;
            default:
                return 0;
        }
    }

    private int doAct(int p) {
        switch (text.at(p)) {
            case 'u':
                return trial.choose(text.number(p + 1, 2));
            case 't':
                return trial.wind(text.number(p + 1, 2), text.number(p + 3, 2), 0);
            case 'b':
                return trial.wind(text.number(p + 1, 2), text.number(p + 3, 2), 1);
            case 'c':
                return trial.scribe();
            case 'w':
                return trial.wipeAll();
            case 'g':
                return trial.putIn(text.number(p + 1, 2), text.number(p + 3, 2), NONE, NONE,
                    text.at(p + 5) == '+' ? 1 : -1);
            case 'o':
                return trial.takeOut();
            default:
                return NONE;
        }
    }

    public int undo() {
        if (pastTotal <= 0 || pastTotal > past.length) {
            return NONE;
        }
        Head before = past[pastTotal - 1];
        if (before == null) {
            return NONE;
        }
        pastTotal--;
        past[pastTotal] = now;
        now = before;
        return pastTotal;
    }

    /** The trial becomes what is, and what was can be undone, if the answer is no refusal. */
    private int adopt(int answer) {
        if (answer < 0 || pastTotal < 0) {
            return answer;
        }
        if (pastTotal >= past.length) {
            Head oldest = past[0];
            for (int i = 1; i < past.length; i++) {
                past[i - 1] = past[i];
            }
            past[past.length - 1] = oldest;
            pastTotal = past.length - 1;
        }
        Head spare = past[pastTotal];
        past[pastTotal] = now;
        pastTotal++;
        now = trial;
        trial = spare == null ? new Head() : spare;
        return answer;
    }

    public int years(int seed, int n) {
        if (!isBetween(n, 1, 30)) {
            return NONE;
        }
        trial.copyFrom(now);
        drawn = seed;
        for (int i = 0; i < n; i++) {
            int kind = draw(4);
            if (kind == 0) {
                trial.choose(draw(trial.circleTotal));
            } else if (kind == 3) {
                trial.scribe();
            } else {
                int turns = draw(5);
                trial.wind(turns, draw(trial.holesOf(trial.onCircle)), 0);
            }
        }
        told.clear();
        told.addFraction(trial.place);
        return trial.markTotal;
    }

    private int draw(int n) {
        drawn = drawn * 1103515245 + 12345;
        return n <= 0 ? 0 : (drawn >>> 16) % n;
    }

    public boolean keep(int i) {
        if (i < 0 || i >= kept.length) {
            return false;
        }
        Head place = kept[i];
        if (place == null) {
            place = new Head();
            kept[i] = place;
        }
        place.copyFrom(now);
        return true;
    }

    public boolean again(int i) {
        if (i < 0 || i >= kept.length) {
            return false;
        }
        Head before = kept[i];
        if (before == null) {
            return false;
        }
        now.copyFrom(before);
        pastTotal = 0;
        return true;
    }

    public int count(int what) {
        switch (what) {
            case 0:
                return now.worm;
            case 1:
                return now.pitch;
            case 2:
                return now.circleTotal;
            case 3:
                return now.gearTotal;
            case 4:
                return now.onCircle;
            case 5:
                return now.wheelTotal;
            case 6:
                return now.markTotal;
            case 7:
                return pastTotal;
            case 8:
                return told.size;
            case 9:
                return text.size;
            case 10:
                return now.plateTotal;
            default:
                return NONE;
        }
    }

    public long row(int i) throws NoSuchElementException {
        if (i < 0 || i >= told.size) {
            throw new NoSuchElementException();
        }
        return told.number(i);
    }

    // ---- numbers

    private static boolean isBetween(int v, int least, int most) {
        return v >= least && v <= most;
    }

    /** The greatest number that divides both; never below 1, so that it may divide. */
    private static long common(long a, long b) {
        long x = a < 0 ? -a : a;
        long y = b < 0 ? -b : b;
        for (int i = 0; i < EUCLID_STEPS && y != 0; i++) {
            long rest = x % y;
            x = y;
            y = rest;
        }
        return x <= 0 ? 1 : x;
    }

    /** Compares a by b with c by d (none below 0) without products: lower numbers of gaps go up to 10^18. */
    private static int compareFractions(long a, long b, long c, long d) {
        long up = a;
        long low = b;
        long otherUp = c;
        long otherLow = d;
        for (int i = 0; i < EUCLID_STEPS && low > 0 && otherLow > 0; i++) {
            int wholes = Long.compare(up / low, otherUp / otherLow);
            long rest = up % low;
            long otherRest = otherUp % otherLow;
            if (wholes != 0 || rest == 0 || otherRest == 0) {
                return wholes != 0 ? wholes : Long.compare(rest, otherRest);
            }
            // rest/low < otherRest/otherLow just if otherLow/otherRest < low/rest
            up = otherLow;
            otherUp = low;
            low = otherRest;
            otherLow = rest;
        }
        return 0;
    }

    /** The number that times a leaves 1 by the modulus; a has no divisor in common with it. */
    private static long inverse(long a, long modulus) {
        if (modulus <= 0) {
            return 0;
        }
        long rest = modulus;
        long nextRest = a;
        long factor = 0;
        long nextFactor = 1;
        for (int i = 0; i < EUCLID_STEPS && nextRest != 0; i++) {
            long quotient = rest / nextRest;
            long newRest = rest - quotient * nextRest;
            rest = nextRest;
            nextRest = newRest;
            long newFactor = factor - quotient * nextFactor;
            factor = nextFactor;
            nextFactor = newFactor;
        }
        return Math.floorMod(factor, modulus);
    }

    /** A fraction as small as can be, its lower number above 0. */
    private static final class Fraction {
        long up = 0;
        long low = 1;

        void put(long upper, long lower) {
            if (lower <= 0) {
                up = 0;
                low = 1;
                return;
            }
            long part = common(upper, lower);
            up = upper / part;
            low = lower / part;
        }

        void copyFrom(Fraction other) {
            up = other.up;
            low = other.low;
        }
    }

    /** The row: numbers that a call told last. */
    private static final class Told {
        private final long[] numbers = new long[MOST_TOLD];
        int size = 0;

        void clear() {
            size = 0;
        }

        /** What goes beyond the most is left out. */
        void add(long v) {
            if (size >= 0 && size < numbers.length) {
                numbers[size] = v;
                size++;
            }
        }

        void addFraction(Fraction f) {
            add(f.up);
            add(f.low);
        }

        long number(int i) {
            return i >= 0 && i < numbers.length ? numbers[i] : 0;
        }
    }

    /** The text, and how signs are read from it. */
    private static final class Text {
        private final char[] signs = new char[MOST_SIGNS];
        int size = 0;

        boolean addFour(int v) {
            if (size < 0 || size + 4 > signs.length) {
                return false;
            }
            for (int i = 0; i < 4; i++) {
                signs[size + i] = (char) (v >>> (24 - 8 * i) & 255);
            }
            size += 4;
            return true;
        }

        /** NONE behind the end, which is no sign. */
        int at(int p) {
            return p >= 0 && p < size && p < signs.length ? signs[p] : NONE;
        }

        boolean isDigit(int p) {
            return at(p) >= '0' && at(p) <= '9';
        }

        /** Where the first of so many signs stands that is no digit, or NONE. */
        int firstNoDigit(int p, int many) {
            for (int i = 0; i < many; i++) {
                if (!isDigit(p + i)) {
                    return p + i;
                }
            }
            return NONE;
        }

        int number(int p, int digits) {
            int v = 0;
            for (int i = 0; i < digits; i++) {
                v = 10 * v + at(p + i) - '0';
            }
            return v;
        }
    }

    /** All that the document's first term tells of: outfit and machine. */
    private static final class Head {
        int worm = 40;
        int pitch = 50;
        int plateTotal = 0;
        int circleTotal = 0;
        int gearTotal = 0;
        int onCircle = 0;
        int wheelTotal = 0;
        int markTotal = 0;
        final Fraction ratio = new Fraction();
        final Fraction place = new Fraction();
        private final Fraction next = new Fraction();
        private final int[] holes = new int[MOST_CIRCLES];
        private final int[] plateNumbers = new int[MOST_CIRCLES];
        private final int[] teeth = new int[MOST_GEARS];
        private final long[] markUps = new long[MOST_MARKS];
        private final long[] markLows = new long[MOST_MARKS];
        private int side = 1;

        void fillAtFirst() {
            dropPlates();
            for (int k = 0; k < FIRST_HOLES.length; k++) {
                plateTotal = 1 + k / MOST_IN_PLATE;
                addCircle(FIRST_HOLES[k]);
            }
            for (int k = 0; k < FIRST_TEETH.length; k++) {
                addGear(FIRST_TEETH[k]);
            }
        }

        void copyFrom(Head other) {
            worm = other.worm;
            pitch = other.pitch;
            plateTotal = other.plateTotal;
            circleTotal = other.circleTotal;
            gearTotal = other.gearTotal;
            onCircle = other.onCircle;
            wheelTotal = other.wheelTotal;
            markTotal = other.markTotal;
            side = other.side;
            ratio.copyFrom(other.ratio);
            place.copyFrom(other.place);
            System.arraycopy(other.holes, 0, holes, 0, MOST_CIRCLES);
            System.arraycopy(other.plateNumbers, 0, plateNumbers, 0, MOST_CIRCLES);
            System.arraycopy(other.teeth, 0, teeth, 0, MOST_GEARS);
            System.arraycopy(other.markUps, 0, markUps, 0, MOST_MARKS);
            System.arraycopy(other.markLows, 0, markLows, 0, MOST_MARKS);
        }

        void dropPlates() {
            plateTotal = 1;
            circleTotal = 0;
        }

        void addCircle(int v) {
            if (circleTotal >= 0 && circleTotal < MOST_CIRCLES) {
                holes[circleTotal] = v;
                plateNumbers[circleTotal] = plateTotal - 1;
                circleTotal++;
            }
        }

        void addGear(int v) {
            if (gearTotal >= 0 && gearTotal < MOST_GEARS) {
                teeth[gearTotal] = v;
                gearTotal++;
            }
        }

        void atFirst() {
            onCircle = 0;
            takeOut();
            wipeAll();
        }

        boolean isCircle(int k) {
            return k >= 0 && k < circleTotal;
        }

        boolean isGear(int k) {
            return k >= 0 && k < gearTotal;
        }

        boolean isMark(int k) {
            return k >= 0 && k < markTotal;
        }

        int holesOf(int k) {
            return isCircle(k) && k < MOST_CIRCLES ? holes[k] : 0;
        }

        int plateOf(int k) {
            return isCircle(k) && k < MOST_CIRCLES ? plateNumbers[k] : NONE;
        }

        int teethOf(int k) {
            return isGear(k) && k < MOST_GEARS ? teeth[k] : 0;
        }

        long markUp(int k) {
            return isMark(k) && k < MOST_MARKS ? markUps[k] : 0;
        }

        long markLow(int k) {
            return isMark(k) && k < MOST_MARKS ? markLows[k] : 1;
        }

        int setTo(int what, int v) {
            boolean fits = what == 0 && isBetween(v, 1, 120) || what == 1 && isBetween(v, 10, 100);
            if (!fits) {
                return NONE;
            }
            int before = what == 0 ? worm : pitch;
            if (v == before) {
                return NOTHING;
            }
            if (what == 0) {
                worm = v;
            } else {
                pitch = v;
            }
            atFirst();
            return before;
        }

        int choose(int k) {
            if (!isCircle(k)) {
                return NONE;
            }
            if (k == onCircle) {
                return NOTHING;
            }
            int before = onCircle;
            onCircle = k;
            return before;
        }

        int putIn(int a, int b, int c, int d, int toSide) {
            boolean two = c == NONE && d == NONE;
            if (toSide != 1 && toSide != -1 || !isPair(a, b)) {
                return NONE;
            }
            if (!two && (!isPair(c, d) || a == c || a == d || b == c || b == d)) {
                return NONE;
            }
            next.put((long) teethOf(a) * (two ? 1 : teethOf(c)), (long) teethOf(b) * (two ? 1 : teethOf(d)));
            if (next.up * toSide == worm * next.low) {
                return UNFIT;
            }
            ratio.copyFrom(next);
            side = toSide;
            wheelTotal = two ? 2 : 4;
            return wheelTotal;
        }

        private boolean isPair(int a, int b) {
            return isGear(a) && isGear(b) && a != b;
        }

        int takeOut() {
            if (wheelTotal == 0) {
                return NOTHING;
            }
            int before = wheelTotal;
            wheelTotal = 0;
            ratio.put(0, 1);
            side = 1;
            return before;
        }

        int wind(int turns, int more, int back) {
            int round = holesOf(onCircle);
            if (!isBetween(turns, 0, 99) || !isBetween(more, 0, round - 1) || !isBetween(back, 0, 1)) {
                return NONE;
            }
            stepOfHole(next);
            long way = (turns * round + more) * next.up;
            // all within a long: the place's lower number is 10^9 at most, that of the step below 10^8
            long lower = place.low * next.low;
            if (lower <= 0) {
                return UNFIT;
            }
            long on = Math.floorMod(back == 1 ? -way : way, next.low) * place.low;
            next.put((place.up * next.low + on) % lower, lower);
            if (next.low > MOST_LOWER) {
                return UNFIT;
            }
            place.copyFrom(next);
            return 0;
        }

        /** By how much the work goes on with one hole, 0 or more and below 1: a step back is one nearly all round. */
        void stepOfHole(Fraction step) {
            long lower = holesOf(onCircle) * (worm * ratio.low - side * ratio.up);
            long size = Math.abs(lower);
            if (size == 0) {
                step.put(0, 1);
                return;
            }
            step.put(Math.floorMod(lower < 0 ? -ratio.low : ratio.low, size), size);
        }

        int scribe() {
            int at = 0;
            for (int k = 0; k < markTotal && compareMark(k) < 0; k++) {
                at = k + 1;
            }
            if (isMark(at) && compareMark(at) == 0) {
                return NOTHING;
            }
            if (markTotal >= MOST_MARKS) {
                return FULL;
            }
            for (int k = markTotal; k > at && k < MOST_MARKS; k--) {
                markUps[k] = markUps[k - 1];
                markLows[k] = markLows[k - 1];
            }
            if (at < MOST_MARKS) {
                markUps[at] = place.up;
                markLows[at] = place.low;
            }
            markTotal++;
            return markTotal;
        }

        /** Mark k compared with the place; both have lower numbers of 10^9 at most. */
        private int compareMark(int k) {
            return Long.compare(markUp(k) * place.low, place.up * markLow(k));
        }

        int wipeAll() {
            int before = markTotal;
            markTotal = 0;
            place.put(0, 1);
            return before;
        }

        void gapBehind(int k, Fraction gap) {
            int other = isMark(k + 1) ? k + 1 : 0;
            long lower = markLow(k) * markLow(other);
            long upper = markUp(other) * markLow(k) - markUp(k) * markLow(other);
            gap.put(upper <= 0 ? upper + lower : upper, lower);
        }

        void wayToMark(int k, Fraction way) {
            long lower = markLow(k) * place.low;
            long upper = markUp(k) * place.low - place.up * markLow(k);
            way.put(upper < 0 ? upper + lower : upper, lower);
        }
    }

    /** The circles by which a number of parts can be had at once. */
    private static final class SimpleWay {
        int many = 0;
        int first = NONE;
        int turns = 0;
        int holes = 0;

        void look(Head head, int parts) {
            many = 0;
            if (parts <= 0) {
                return;
            }
            for (int k = 0; k < head.circleTotal; k++) {
                int round = head.holesOf(k);
                if (head.worm * round % parts == 0) {
                    if (many == 0) {
                        first = k;
                        turns = head.worm / parts;
                        holes = head.worm * round / parts - turns * round;
                    }
                    many++;
                }
            }
        }
    }

    /** Two circles of one plate for a number of parts; sum 0: there are none. */
    private static final class CompoundWay {
        int sum = 0;
        int first = NONE;
        int second = NONE;
        int turns = 0;
        int a = 0;
        int b = 0;

        void look(Head head, int parts) {
            sum = 0;
            for (int one = 0; one < head.circleTotal; one++) {
                int plate = head.plateOf(one);
                for (int other = one + 1; other < head.circleTotal && head.plateOf(other) == plate; other++) {
                    tryPair(head, one, other, parts);
                }
            }
        }

        private void tryPair(Head head, int one, int other, int parts) {
            int round = head.holesOf(one);
            int otherRound = head.holesOf(other);
            int product = head.worm * round * otherRound;
            if (parts <= 0 || round <= 0 || otherRound <= 0 || product % parts != 0) {
                return;
            }
            int all = product / parts;
            // a alone as great as the sum so far can't be better
            for (int holes = 1; holes < round && (sum == 0 || holes < sum); holes++) {
                int rest = all - holes * otherRound;
                if (rest % round == 0 && offer(holes, rest / round, otherRound)) {
                    first = one;
                    second = other;
                }
            }
        }

        /** The rest, in holes of the other circle, as turns and holes back or on; is one of these the best yet? */
        private boolean offer(int holes, int rest, int otherRound) {
            if (otherRound <= 0) {
                return false;
            }
            int on = Math.floorMod(rest, otherRound);
            int wholes = Math.floorDiv(rest, otherRound);
            boolean backIsBetter = on != 0 && take(holes, on - otherRound, wholes + 1);
            boolean onIsBetter = on != 0 && take(holes, on, wholes);
            return backIsBetter || onIsBetter;
        }

        private boolean take(int holes, int otherHoles, int wholes) {
            int together = holes + Math.abs(otherHoles);
            if (wholes < 0 || sum != 0 && together >= sum) {
                return false;
            }
            sum = together;
            turns = wholes;
            a = holes;
            b = otherHoles;
            return true;
        }
    }

    /** A near number of parts, and the train that makes up for it; number 0: there is none. */
    private static final class DifferentialWay {
        final SimpleWay nearWay = new SimpleWay();
        int number = 0;
        int entry = NONE;
        int side = 1;

        void look(Head head, Shelf trains, int parts) {
            number = 0;
            for (int far = 1; far <= 20 && number == 0; far++) {
                tryNumber(head, trains, parts - far, far, -1);
                if (number == 0) {
                    tryNumber(head, trains, parts + far, far, 1);
                }
            }
        }

        private void tryNumber(Head head, Shelf trains, int other, int far, int toSide) {
            if (other < 2) {
                return;
            }
            nearWay.look(head, other);
            if (nearWay.many == 0) {
                return;
            }
            entry = trains.find((long) head.worm * far, other);
            if (entry >= 0) {
                number = other;
                side = toSide;
            }
        }
    }

    /** The different ratios that trains of some gears have, each with its first train, in the order of these. */
    private static final class Shelf {
        /** 132 trains of two, and 2970 of four when those that only change places are left out. */
        private static final int MOST = 3102;
        private static final int SLOTS = 8192;
        /** Stands for a wheel that a train of two has not. */
        private static final int NO_WHEEL = 15;

        int size = 0;
        private int gearTotal = 0;
        private final int[] teeth = new int[MOST_GEARS];
        private final int[] ups = new int[MOST];
        private final int[] lows = new int[MOST];
        private final int[] wheels = new int[MOST];
        /** Of each slot the entry and 1, 0 for an empty one. */
        private final int[] slots = new int[SLOTS];

        /** The ratios are worked out anew only if the gears are others than before. */
        void fit(Head head) {
            boolean same = gearTotal == head.gearTotal;
            for (int k = 0; k < MOST_GEARS; k++) {
                same = same && teeth[k] == head.teethOf(k);
                teeth[k] = head.teethOf(k);
            }
            gearTotal = head.gearTotal;
            if (!same) {
                size = 0;
                Arrays.fill(slots, 0);
                addTwos();
                addFours();
            }
        }

        private int tooth(int k) {
            return k >= 0 && k < MOST_GEARS ? teeth[k] : 0;
        }

        private void addTwos() {
            for (int a = 0; a < gearTotal; a++) {
                for (int b = 0; b < gearTotal; b++) {
                    if (a != b) {
                        add(tooth(a), tooth(b), pack(a, b, NO_WHEEL, NO_WHEEL));
                    }
                }
            }
        }

        /** Of trains alike but for the places of a and c, or b and d, the first has c above a, d above b. */
        private void addFours() {
            for (int a = 0; a < gearTotal; a++) {
                for (int b = 0; b < gearTotal; b++) {
                    for (int c = a + 1; a != b && c < gearTotal; c++) {
                        for (int d = b + 1; c != b && d < gearTotal; d++) {
                            if (d != a && d != c) {
                                add(tooth(a) * tooth(c), tooth(b) * tooth(d), pack(a, b, c, d));
                            }
                        }
                    }
                }
            }
        }

        private static int pack(int a, int b, int c, int d) {
            return a | b << 4 | c << 8 | d << 12;
        }

        private void add(int upper, int lower, int packed) {
            int part = (int) common(upper, lower);
            if (part <= 0 || size < 0 || size >= MOST) {
                return;
            }
            int slot = slotOf(upper / part, lower / part);
            if (slot >= 0 && slot < SLOTS && slots[slot] == 0) {
                ups[size] = upper / part;
                lows[size] = lower / part;
                wheels[size] = packed;
                size++;
                slots[slot] = size;
            }
        }

        /** The slot where this ratio is, or the empty one where it would be. */
        private int slotOf(int upper, int lower) {
            int slot = (upper * 0x9E3779B1 + lower * 0x85EBCA6B) >>> 19;
            for (int i = 0; i < SLOTS; i++) {
                slot &= SLOTS - 1;
                int entry = slots[slot] - 1;
                if (entry < 0 || entry < MOST && ups[entry] == upper && lows[entry] == lower) {
                    return slot;
                }
                slot++;
            }
            return NONE;
        }

        /** The entry of ratio p by q, or NONE. */
        int find(long p, long q) {
            long part = common(p, q);
            if (part <= 0) {
                return NONE;
            }
            int slot = slotOf((int) (p / part), (int) (q / part));
            return slot >= 0 && slot < SLOTS ? slots[slot] - 1 : NONE;
        }

        int up(int entry) {
            return entry >= 0 && entry < MOST ? ups[entry] : 0;
        }

        int low(int entry) {
            return entry >= 0 && entry < MOST ? lows[entry] : 1;
        }

        /** Wheel i (0 .. 3) of the first train with this ratio; NONE if it has not so many. */
        int wheel(int entry, int i) {
            if (entry < 0 || entry >= MOST) {
                return NONE;
            }
            int k = wheels[entry] >> 4 * i & 15;
            return k == NO_WHEEL ? NONE : k;
        }

        int wheelTotal(int entry) {
            return wheel(entry, 2) == NONE ? 2 : 4;
        }

        /** The value of an entry: its ratio, or with a product above 0 the product by the ratio. */
        long upper(long product, int entry) {
            return product > 0 ? product * low(entry) : up(entry);
        }

        long lower(long product, int entry) {
            return product > 0 ? up(entry) : low(entry);
        }

        /** The entry whose value is nearest to p by q; of two equally near ones the lesser. */
        int closest(long product, long p, long q) {
            int best = 0;
            long bestUp = upper(product, 0);
            long bestLow = lower(product, 0);
            long bestOff = Math.abs(bestUp * q - p * bestLow);
            for (int entry = 1; entry < size; entry++) {
                long up = upper(product, entry);
                long low = lower(product, entry);
                long far = Math.abs(up * q - p * low);
                long less = far * bestLow - bestOff * low;
                if (less < 0 || less == 0 && up * bestLow < bestUp * low) {
                    best = entry;
                    bestUp = up;
                    bestLow = low;
                    bestOff = far;
                }
            }
            return best;
        }

        /** The entry of the least (direction -1) or the greatest (1) ratio. */
        int extreme(int direction) {
            int best = 0;
            for (int entry = 1; entry < size; entry++) {
                int more = up(entry) * low(best) - up(best) * low(entry);
                if (more * direction > 0) {
                    best = entry;
                }
            }
            return best;
        }
    }

    /** The different gaps between marks. */
    private static final class GapList {
        int kinds = 0;
        private final Fraction gap = new Fraction();
        private final long[] ups = new long[MOST_MARKS];
        private final long[] lows = new long[MOST_MARKS];

        void look(Head head) {
            kinds = 0;
            for (int k = 0; k < head.markTotal; k++) {
                head.gapBehind(k, gap);
                if (!holdsGap() && kinds >= 0 && kinds < MOST_MARKS) {
                    ups[kinds] = gap.up;
                    lows[kinds] = gap.low;
                    kinds++;
                }
            }
        }

        private boolean holdsGap() {
            for (int i = 0; i < kinds && i < MOST_MARKS; i++) {
                if (ups[i] == gap.up && lows[i] == gap.low) {
                    return true;
                }
            }
            return false;
        }

        /** Tells the least (direction -1) or the greatest (1) gap. */
        void tellExtreme(Told told, int direction) {
            int best = 0;
            for (int i = 1; i < kinds && i < MOST_MARKS; i++) {
                if (compareFractions(ups[i], lows[i], ups[best], lows[best]) * direction > 0) {
                    best = i;
                }
            }
            told.add(ups[best]);
            told.add(lows[best]);
        }
    }
}
