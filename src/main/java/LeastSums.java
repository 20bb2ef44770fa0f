import java.util.Arrays;

/**
 * Functions of straight pieces, kept exactly. Inside, every number is told in sixtieths, so that
 * all of STORE is whole numbers and only PAPER needs fractions.
 */
public final class LeastSums {
    public static final int NONE = -1;
    public static final long NOTHING = Long.MIN_VALUE;

    private static final int ABSENT = Integer.MIN_VALUE;
    private static final int SIXTIETHS = 60;
    private static final int GREATEST_PLACE = 5940;
    private static final int GREATEST_FACTOR = 60;
    private static final int STORE_KNOTS = 12;
    private static final int STORES = 6;
    private static final int PAPER = 6;
    private static final int SLOTS = 7;
    private static final int IMAGES = 2;
    private static final int UNDOABLE = 8;
    private static final int TAPE_BYTES = 400;
    private static final int FED_BYTES = 20;

    private static final int BAD_NUMBER = -1;
    private static final int BAD_PLACE = -2;
    private static final int BAD_STATE = -4;
    private static final int BAD_FIT = -5;
    private static final int BAD_TEXT = -6;

    private static final int ACT_READ = 0;
    private static final int ACT_DOT = 1;
    private static final int ACT_CLEAR = 2;
    private static final int ACT_SUM = 3;
    private static final int ACT_UNDER = 4;
    private static final int ACT_JOIN = 5;
    private static final int ACT_TURN = 6;
    private static final int ACT_HULL = 7;
    private static final int ACT_CUT = 8;
    private static final int ACT_MOVE = 9;
    private static final int ACT_TIMES = 10;
    private static final int ACT_LAY = 11;
    private static final int ACT_PUT = 12;

    /** STORE 0 .. 5, then PAPER. */
    private final Shape[] slots = new Shape[SLOTS];
    /** What the next act writes; it takes a slot's place, and what stood there goes to the history. */
    private Shape spare = new Shape();
    private final History history = new History();
    private final Shape[] images = new Shape[IMAGES * SLOTS];
    private final boolean[] imageKept = new boolean[IMAGES];

    private final Tape tape = new Tape();

    private int status = 0;
    /** How often it was refused, by the number of the reason without its sign. */
    private final int[] refusals = new int[7];

    private final Lines lines = new Lines(2 * STORE_KNOTS * STORE_KNOTS);
    private final Lines first = new Lines(STORE_KNOTS);
    private final Lines second = new Lines(STORE_KNOTS);

    private final Ratio one = new Ratio();
    private final Ratio two = new Ratio();
    private final Ratio best = new Ratio();
    private int bestShare = 0;
    private final Rivals rivals = new Rivals();

    public LeastSums() {
        for (int k = 0; k < SLOTS; k++) {
            slots[k] = new Shape();
        }
        for (int k = 0; k < IMAGES * SLOTS; k++) {
            images[k] = new Shape();
        }
    }

    // ---- the tape

    public int feed(int a, int b, int c, int d, int e) {
        if (tape.length + FED_BYTES > TAPE_BYTES) {
            return NONE;
        }
        tape.appendWord(a);
        tape.appendWord(b);
        tape.appendWord(c);
        tape.appendWord(d);
        tape.appendWord(e);
        return tape.length;
    }

    public int end(int n) {
        if (n < 0 || n > tape.length) {
            return NONE;
        }
        tape.length = n;
        return n;
    }

    public int read(int i) {
        if (!isStore(i)) {
            return refuse(BAD_PLACE);
        }
        lines.start();
        boolean good = tape.readText(lines);
        tape.length = 0;
        if (!good) {
            return refuse(BAD_TEXT);
        }
        lines.lowestInto(spare);
        return settle(ACT_READ, i);
    }

    public int fault() {
        return tape.faultPlace;
    }

    // ---- acts on STORE

    public int dot(int i, int x, int y) {
        if (!isPlace(x) || !isPlace(y)) {
            return refuse(BAD_NUMBER);
        }
        if (!isStore(i)) {
            return refuse(BAD_PLACE);
        }
        spare.wipe();
        spare.addKnot(x, 1, y, 1, false);
        return settle(ACT_DOT, i);
    }

    public int clear(int i) {
        if (!isStore(i)) {
            return refuse(BAD_PLACE);
        }
        int had = slots[i].knots;
        spare.wipe();
        settle(ACT_CLEAR, i);
        return had;
    }

    public int put(int i) {
        if (!isStore(i)) {
            return refuse(BAD_PLACE);
        }
        if (!slots[PAPER].fitsStore()) {
            return refuse(BAD_FIT);
        }
        spare.copyOf(slots[PAPER]);
        return settle(ACT_PUT, i);
    }

    // ---- acts onto PAPER

    public int sum(int i, int j) {
        if (!isStore(i) || !isStore(j)) {
            return refuse(BAD_PLACE);
        }
        loadPair(i, j);
        for (int k = 0; k < first.many; k++) {
            for (int m = 0; m < second.many; m++) {
                lines.addSum(first, k, second, m);
            }
        }
        return ontoPaper(ACT_SUM);
    }

    public int under(int i, int j) {
        if (!isStore(i) || !isStore(j)) {
            return refuse(BAD_PLACE);
        }
        lines.start();
        lines.addShape(slots[i]);
        lines.addShape(slots[j]);
        return ontoPaper(ACT_UNDER);
    }

    public int join(int i, int j) {
        if (!isStore(i) || !isStore(j)) {
            return refuse(BAD_PLACE);
        }
        loadPair(i, j);
        for (int k = 0; k < first.many; k++) {
            for (int m = 0; m < second.many; m++) {
                lines.addJoined(first, k, second, m);
            }
        }
        return ontoPaper(ACT_JOIN);
    }

    public int turn(int i) {
        if (!isStore(i)) {
            return refuse(BAD_PLACE);
        }
        if (!slots[i].canBeTurned()) {
            return refuse(BAD_STATE);
        }
        lines.start();
        lines.addTurned(slots[i]);
        return ontoPaper(ACT_TURN);
    }

    public int hull(int i) {
        if (!isStore(i)) {
            return refuse(BAD_PLACE);
        }
        lines.start();
        lines.addHull(slots[i]);
        return ontoPaper(ACT_HULL);
    }

    public int cut(int i, int from, int to) {
        if (!isPlace(from) || !isPlace(to) || from > to) {
            return refuse(BAD_NUMBER);
        }
        if (!isStore(i)) {
            return refuse(BAD_PLACE);
        }
        loadOne(i);
        for (int k = 0; k < first.many; k++) {
            lines.addCut(first, k, from, to);
        }
        return ontoPaper(ACT_CUT);
    }

    public int move(int i, int x, int y) {
        if (!isPlace(x) || !isPlace(y)) {
            return refuse(BAD_NUMBER);
        }
        if (!isStore(i)) {
            return refuse(BAD_PLACE);
        }
        loadOne(i);
        for (int k = 0; k < first.many; k++) {
            lines.addMoved(first, k, x, y);
        }
        return ontoPaper(ACT_MOVE);
    }

    public int times(int i, int by) {
        if (by < 0 || by > GREATEST_FACTOR) {
            return refuse(BAD_NUMBER);
        }
        if (!isStore(i)) {
            return refuse(BAD_PLACE);
        }
        loadOne(i);
        for (int k = 0; k < first.many; k++) {
            lines.addMultiple(first, k, by);
        }
        return ontoPaper(ACT_TIMES);
    }

    public int lay(int i) {
        if (!isStore(i)) {
            return refuse(BAD_PLACE);
        }
        spare.copyOf(slots[i]);
        return settle(ACT_LAY, PAPER);
    }

    private void loadOne(int i) {
        first.start();
        first.addShape(slots[i]);
        lines.start();
    }

    private void loadPair(int i, int j) {
        loadOne(i);
        second.start();
        second.addShape(slots[j]);
    }

    private int ontoPaper(int act) {
        lines.lowestInto(spare);
        return settle(act, PAPER);
    }

    /** Puts the spare shape into a slot; what stood there can be brought back. */
    private int settle(int act, int slot) {
        Shape was = slots[slot];
        slots[slot] = spare;
        spare = history.keep(act, slot, was);
        status = 0;
        return slots[slot].knots;
    }

    private int refuse(int by) {
        status = by;
        refusals[-by]++;
        return by;
    }

    // ---- acts taken back, images

    public int undo() {
        if (history.many == 0) {
            return refuse(BAD_STATE);
        }
        int slot = history.latestSlot();
        slots[slot] = history.takeBack(slots[slot]);
        status = 0;
        return history.takenAct;
    }

    public int image(int k) {
        if (!isImage(k)) {
            return refuse(BAD_NUMBER);
        }
        for (int slot = 0; slot < SLOTS; slot++) {
            images[k * SLOTS + slot].copyOf(slots[slot]);
        }
        imageKept[k] = true;
        status = 0;
        return storeKnots();
    }

    public int back(int k) {
        if (!isImage(k)) {
            return refuse(BAD_NUMBER);
        }
        if (!imageKept[k]) {
            return refuse(BAD_PLACE);
        }
        for (int slot = 0; slot < SLOTS; slot++) {
            slots[slot].copyOf(images[k * SLOTS + slot]);
        }
        history.forget();
        status = 0;
        return storeKnots();
    }

    private int storeKnots() {
        int all = 0;
        for (int slot = 0; slot < STORES; slot++) {
            all += slots[slot].knots;
        }
        return all;
    }

    // ---- questions

    public long paper(int k, int what) {
        Shape shape = slots[PAPER];
        if (k < 0 || k >= shape.knots) {
            return NOTHING;
        }
        switch (what) {
            case 0:
            case 1:
                one.assign(shape.xUpper[k], shape.xLower[k]);
                return tellNumber(one, what);
            case 2:
            case 3:
                one.assign(shape.yUpper[k], shape.yLower[k]);
                return tellNumber(one, what - 2);
            case 4:
                return shape.goesOn[k];
            default:
                return NOTHING;
        }
    }

    public int knot(int i, int k, int what) {
        if (!isStore(i) || k < 0 || k >= slots[i].knots) {
            return ABSENT;
        }
        switch (what) {
            case 0:
                return slots[i].xAt(k);
            case 1:
                return slots[i].yAt(k);
            case 2:
                return slots[i].goesOn[k];
            default:
                return ABSENT;
        }
    }

    public long value(int i, int x, int what) {
        if (!isStore(i) || !isPlace(x) || !isUpperOrLower(what)) {
            return NOTHING;
        }
        slots[i].valueAt(x, one);
        return tellNumber(one, what);
    }

    public int bits(int i, int x) {
        if (!isStore(i) || !isPlace(x)) {
            return 0;
        }
        slots[i].valueAt(x, one);
        if (!one.known) {
            return 0;
        }
        one.assign(one.upper, one.lower * SIXTIETHS);
        return bitsOf((float) one.upper / (float) one.lower);
    }

    /** What Float.floatToIntBits tells of a float that is 0 or far from the least and greatest ones. */
    private static int bitsOf(float number) {
        if (number == 0f) {
            return 0;
        }
        int sign = number < 0f ? 1 << 31 : 0;
        float rest = number < 0f ? -number : number;
        int power = 127;
        for (int step = 0; step < 127 && rest >= 2f; step++) {
            rest = rest / 2f;
            power++;
        }
        for (int step = 0; step < 126 && rest < 1f; step++) {
            rest = rest * 2f;
            power--;
        }
        int fraction = (int) (rest * 8388608f) - 8388608;
        return sign | power << 23 | fraction;
    }

    public long limit(int i, int x, int what) {
        if (!isStore(i) || !isPlace(x) || what < 0 || what > 3) {
            return NOTHING;
        }
        if (what < 2) {
            slots[i].leftEndAt(x, one);
            return tellNumber(one, what);
        }
        slots[i].rightBeginAt(x, one);
        return tellNumber(one, what - 2);
    }

    public int of(int i, int what) {
        if (!isStore(i)) {
            return ABSENT;
        }
        Shape shape = slots[i];
        switch (what) {
            case 0:
                return shape.knots;
            case 1:
                return shape.parts();
            case 2:
                return shape.knots - shape.parts();
            case 3:
                return shape.jumps();
            case 4:
                return shape.parts() == 1 && shape.slopeFalls() == 0 ? 1 : 0;
            case 5:
                return shape.knots == 0 ? ABSENT : shape.xAt(0);
            case 6:
                return shape.knots == 0 ? ABSENT : shape.xAt(shape.knots - 1);
            case 7:
                return shape.width();
            case 8:
                return shape.canBeTurned() ? 1 : 0;
            case 9:
                return shape.slopeFalls();
            default:
                return ABSENT;
        }
    }

    public int least(int i, int what) {
        if (!isStore(i) || slots[i].knots == 0) {
            return ABSENT;
        }
        Shape shape = slots[i];
        switch (what) {
            case 0:
                return shape.yAt(shape.firstLowest());
            case 1:
                return shape.xAt(shape.firstLowest());
            case 2:
                return shape.xAt(shape.lastLowest());
            case 3:
                return shape.highest();
            default:
                return ABSENT;
        }
    }

    public long slope(int i, int k, int what) {
        if (!isStore(i) || k < 0 || !isUpperOrLower(what)) {
            return NOTHING;
        }
        Shape shape = slots[i];
        int at = shape.knotOfLine(k);
        if (at < 0) {
            return NOTHING;
        }
        one.assign(shape.riseOf(at), shape.runOf(at));
        return tellPlain(one, what);
    }

    public long area(int i, int what) {
        if (!isStore(i) || !isUpperOrLower(what)) {
            return NOTHING;
        }
        one.assign(slots[i].twiceArea(), 2 * SIXTIETHS * SIXTIETHS);
        return tellPlain(one, what);
    }

    public long where(int i, int y, int what) {
        if (!isStore(i) || !isPlace(y) || !isUpperOrLower(what)) {
            return NOTHING;
        }
        slots[i].firstWith(y, one);
        return tellNumber(one, what);
    }

    public int places(int i, int x, int z) {
        if (!isStore(i) || !isPlace(x) || !isPlace(z) || x > z) {
            return NONE;
        }
        return slots[i].placesWithin(x, z);
    }

    public long split(int i, int j, int x, int what) {
        if (!isStore(i) || !isStore(j) || !isPlace(x) || what < 0 || what > 3) {
            return NOTHING;
        }
        findSplit(slots[i], slots[j], x);
        if (!best.known) {
            return NOTHING;
        }
        if (what < 2) {
            return tellNumber(best, what);
        }
        one.assign(bestShare, 1);
        return tellNumber(one, what - 2);
    }

    /** Of two lines the sum is straight in u, so that a least one lies at a knot of one of both. */
    private void findSplit(Shape f, Shape g, int x) {
        best.forget();
        bestShare = 0;
        for (int k = 0; k < f.knots; k++) {
            trySplit(f, g, x, f.xAt(k));
        }
        for (int k = 0; k < g.knots; k++) {
            trySplit(f, g, x, x - g.xAt(k));
        }
    }

    private void trySplit(Shape f, Shape g, int x, int u) {
        f.valueAt(u, one);
        g.valueAt(x - u, two);
        if (!one.known || !two.known) {
            return;
        }
        one.add(two);
        int order = best.known ? one.orderTo(best) : -1;
        if (order < 0 || order == 0 && u < bestShare) {
            best.assign(one.upper, one.lower);
            bestShare = u;
        }
    }

    public int compare(int i, int j) {
        if (!isStore(i) || !isStore(j)) {
            return BAD_PLACE;
        }
        rivals.start();
        rivals.meetAtKnotsOf(slots[i], slots[i], slots[j]);
        rivals.meetAtKnotsOf(slots[j], slots[i], slots[j]);
        return rivals.verdict();
    }

    public int count(int what) {
        if (what >= 0 && what < STORES) {
            return slots[what].knots;
        }
        switch (what) {
            case 6:
                return slots[PAPER].knots;
            case 7:
                return slots[PAPER].parts();
            case 8:
                return slots[PAPER].fitsStore() ? 1 : 0;
            case 9:
                return history.many;
            case 10:
                return tape.length;
            case 11:
                return refusals[-BAD_NUMBER];
            case 12:
                return refusals[-BAD_PLACE];
            case 13:
                return refusals[-BAD_STATE];
            case 14:
                return refusals[-BAD_FIT];
            case 15:
                return refusals[-BAD_TEXT];
            default:
                return NONE;
        }
    }

    public int status() {
        return status;
    }

    // ---- small tests and tellings

    private static boolean isStore(int i) {
        return i >= 0 && i < STORES;
    }

    private static boolean isImage(int k) {
        return k >= 0 && k < IMAGES;
    }

    private static boolean isPlace(long x) {
        return x >= -GREATEST_PLACE && x <= GREATEST_PLACE;
    }

    private static boolean isUpperOrLower(int what) {
        return what == 0 || what == 1;
    }

    /** Of a ratio in sixtieths the upper number (0) or the lower one (1), as a plain number's. */
    private static long tellNumber(Ratio ratio, int what) {
        if (!ratio.known) {
            return NOTHING;
        }
        ratio.assign(ratio.upper, ratio.lower * SIXTIETHS);
        return tellPlain(ratio, what);
    }

    private static long tellPlain(Ratio ratio, int what) {
        if (!ratio.known) {
            return NOTHING;
        }
        return what == 0 ? ratio.upper : ratio.lower;
    }

    /** A fraction in lowest terms, its lower number above 0, or none. */
    private static final class Ratio {
        boolean known = false;
        long upper = 0;
        long lower = 1;

        void forget() {
            known = false;
        }

        void assign(long top, long bottom) {
            if (bottom == 0) {
                known = false;
                return;
            }
            long common = commonDivisor(top, bottom);
            long divisor = bottom < 0 ? -common : common;
            known = true;
            upper = divisor == 0 ? top : top / divisor;
            lower = divisor == 0 ? bottom : bottom / divisor;
        }

        void add(Ratio other) {
            assign(upper * other.lower + other.upper * lower, lower * other.lower);
        }

        int orderTo(Ratio other) {
            return order(upper, lower, other.upper, other.lower);
        }

        /** Compares a/b with c/d, b and d above 0: whole parts first, since a * d may not fit a long. */
        static int order(long a, long b, long c, long d) {
            if (b <= 0 || d <= 0) {
                return 0;
            }
            long wholeA = Math.floorDiv(a, b);
            long wholeC = Math.floorDiv(c, d);
            if (wholeA != wholeC) {
                return wholeA < wholeC ? -1 : 1;
            }
            return Long.compare((a - wholeA * b) * d, (c - wholeC * d) * b);
        }

        /** Above 0, unless both are 0. Euclid's steps on longs are fewer than a hundred. */
        static long commonDivisor(long a, long b) {
            long high = Math.abs(a);
            long low = Math.abs(b);
            for (int step = 0; step < 200 && low != 0; step++) {
                long rest = high % low;
                high = low;
                low = rest;
            }
            return high;
        }
    }

    /** A FUNCTION as few knots as can be, in sixtieths; in STORE all its lower numbers are 1. */
    private static final class Shape {
        int knots = 0;
        long[] xUpper = new long[STORE_KNOTS];
        long[] xLower = new long[STORE_KNOTS];
        long[] yUpper = new long[STORE_KNOTS];
        long[] yLower = new long[STORE_KNOTS];
        /** 1 if a line goes on from the knot, else 0. */
        int[] goesOn = new int[STORE_KNOTS];

        void wipe() {
            knots = 0;
        }

        /** The lower numbers are above 0. */
        void addKnot(long xTop, long xBottom, long yTop, long yBottom, boolean lineFollows) {
            long xCommon = Ratio.commonDivisor(xTop, xBottom);
            long yCommon = Ratio.commonDivisor(yTop, yBottom);
            if (xCommon == 0 || yCommon == 0) {
                return;
            }
            makeRoom(knots + 1);
            xUpper[knots] = xTop / xCommon;
            xLower[knots] = xBottom / xCommon;
            yUpper[knots] = yTop / yCommon;
            yLower[knots] = yBottom / yCommon;
            goesOn[knots] = lineFollows ? 1 : 0;
            knots++;
        }

        void makeRoom(int needed) {
            if (needed <= xUpper.length) {
                return;
            }
            int size = Math.max(needed, 2 * xUpper.length);
            xUpper = Arrays.copyOf(xUpper, size);
            xLower = Arrays.copyOf(xLower, size);
            yUpper = Arrays.copyOf(yUpper, size);
            yLower = Arrays.copyOf(yLower, size);
            goesOn = Arrays.copyOf(goesOn, size);
        }

        void copyOf(Shape other) {
            makeRoom(other.knots);
            knots = other.knots;
            System.arraycopy(other.xUpper, 0, xUpper, 0, knots);
            System.arraycopy(other.xLower, 0, xLower, 0, knots);
            System.arraycopy(other.yUpper, 0, yUpper, 0, knots);
            System.arraycopy(other.yLower, 0, yLower, 0, knots);
            System.arraycopy(other.goesOn, 0, goesOn, 0, knots);
        }

        boolean fitsStore() {
            if (knots > STORE_KNOTS) {
                return false;
            }
            for (int k = 0; k < knots; k++) {
                if (xLower[k] != 1 || yLower[k] != 1 || !isPlace(xUpper[k]) || !isPlace(yUpper[k])) {
                    return false;
                }
            }
            return true;
        }

        int parts() {
            int ends = 0;
            for (int k = 0; k < knots; k++) {
                if (goesOn[k] == 0) {
                    ends++;
                }
            }
            return ends;
        }

        // What follows is asked only of shapes in STORE, whose numbers are whole.

        int xAt(int k) {
            return (int) xUpper[k];
        }

        int yAt(int k) {
            return (int) yUpper[k];
        }

        boolean hasLine(int k) {
            return goesOn[k] == 1 && k + 1 < knots;
        }

        /** A line begins at it, or it stands on its own. */
        boolean beginsPiece(int k) {
            return hasLine(k) || k == 0 || !hasLine(k - 1);
        }

        int endOfPiece(int k) {
            return hasLine(k) ? k + 1 : k;
        }

        long runOf(int k) {
            return hasLine(k) ? xUpper[k + 1] - xUpper[k] : 0;
        }

        long riseOf(int k) {
            return hasLine(k) ? yUpper[k + 1] - yUpper[k] : 0;
        }

        void alongLine(int k, int x, Ratio told) {
            long run = runOf(k);
            told.assign(yUpper[k] * run + riseOf(k) * (x - xUpper[k]), run);
        }

        void valueAt(int x, Ratio told) {
            told.forget();
            int low = -1;
            for (int k = 0; k < knots && xUpper[k] <= x; k++) {
                if (xUpper[k] == x && (low < 0 || yUpper[k] < yUpper[low])) {
                    low = k;
                } else if (hasLine(k) && xUpper[k] < x && x < xUpper[k + 1]) {
                    alongLine(k, x, told);
                    return;
                }
            }
            if (low >= 0) {
                told.assign(yUpper[low], 1);
            }
        }

        void leftEndAt(int x, Ratio told) {
            told.forget();
            for (int k = 0; k < knots; k++) {
                if (hasLine(k) && xUpper[k] < x && x <= xUpper[k + 1]) {
                    alongLine(k, x, told);
                    return;
                }
            }
        }

        void rightBeginAt(int x, Ratio told) {
            told.forget();
            for (int k = 0; k < knots; k++) {
                if (hasLine(k) && xUpper[k] <= x && x < xUpper[k + 1]) {
                    alongLine(k, x, told);
                    return;
                }
            }
        }

        int jumps() {
            int found = 0;
            for (int k = 1; k < knots; k++) {
                if (goesOn[k - 1] == 0 && xUpper[k] == xUpper[k - 1]) {
                    found++;
                }
            }
            return found;
        }

        int width() {
            long all = 0;
            for (int k = 0; k < knots; k++) {
                all += runOf(k);
            }
            return (int) all;
        }

        int slopeFalls() {
            int falls = 0;
            int before = -1;
            for (int k = 0; k < knots; k++) {
                if (!hasLine(k)) {
                    continue;
                }
                if (before >= 0 && riseOf(k) * runOf(before) < riseOf(before) * runOf(k)) {
                    falls++;
                }
                before = k;
            }
            return falls;
        }

        /** The knot at which line number k begins, -1 if there is no such line. */
        int knotOfLine(int k) {
            int seen = 0;
            for (int at = 0; at < knots; at++) {
                if (hasLine(at)) {
                    if (seen == k) {
                        return at;
                    }
                    seen++;
                }
            }
            return -1;
        }

        boolean canBeTurned() {
            boolean rises = true;
            boolean falls = true;
            for (int k = 1; k < knots; k++) {
                if (xUpper[k] <= xUpper[k - 1]) {
                    return false;
                }
                rises = rises && yUpper[k] > yUpper[k - 1];
                falls = falls && yUpper[k] < yUpper[k - 1];
            }
            return rises || falls;
        }

        int firstLowest() {
            int low = 0;
            for (int k = 1; k < knots; k++) {
                if (yUpper[k] < yUpper[low]) {
                    low = k;
                }
            }
            return low;
        }

        int lastLowest() {
            int low = 0;
            for (int k = 1; k < knots; k++) {
                if (yUpper[k] <= yUpper[low]) {
                    low = k;
                }
            }
            return low;
        }

        int highest() {
            long high = yUpper[0];
            for (int k = 1; k < knots; k++) {
                high = Math.max(high, yUpper[k]);
            }
            return (int) high;
        }

        long twiceArea() {
            long all = 0;
            for (int k = 0; k < knots; k++) {
                if (hasLine(k)) {
                    all += (yUpper[k] + yUpper[k + 1]) * runOf(k);
                }
            }
            return all;
        }

        void firstWith(int y, Ratio told) {
            for (int k = 0; k < knots; k++) {
                valueAt(xAt(k), told);
                if (told.known && told.lower == 1 && told.upper == y) {
                    told.assign(xUpper[k], 1);
                    return;
                }
                if (hasLine(k) && isStrictlyBetween(y, yUpper[k], yUpper[k + 1])) {
                    long rise = riseOf(k);
                    told.assign(xUpper[k] * rise + (y - yUpper[k]) * runOf(k), rise);
                    return;
                }
            }
            told.forget();
        }

        static boolean isStrictlyBetween(long y, long a, long b) {
            return y > Math.min(a, b) && y < Math.max(a, b);
        }

        int placesWithin(int from, int to) {
            int all = 0;
            long next = from;
            for (int k = 0; k < knots; k++) {
                long low = Math.max(next, xUpper[k]);
                long high = Math.min(to, xUpper[endOfPiece(k)]);
                if (low <= high) {
                    all += (int) (high - low + 1);
                    next = high + 1;
                }
            }
            return all;
        }

        /** The knot behind k that is seen from it least steep, of these the farthest; -1 without one. */
        int hullNext(int k) {
            int next = -1;
            for (int m = k + 1; m < knots; m++) {
                long run = xUpper[m] - xUpper[k];
                if (run <= 0) {
                    continue;
                }
                if (next < 0) {
                    next = m;
                    continue;
                }
                long here = (yUpper[m] - yUpper[k]) * (xUpper[next] - xUpper[k]);
                long there = (yUpper[next] - yUpper[k]) * run;
                if (here <= there) {
                    next = m;
                }
            }
            return next;
        }
    }

    /**
     * Lines y = (base + rise * x) / run over whole x from one to another (alike: one knot on its
     * own), and the least of all of them as a shape.
     */
    private static final class Lines {
        static final int BEYOND = Integer.MAX_VALUE;

        int many = 0;
        final int[] from;
        final int[] to;
        final long[] base;
        final long[] rise;
        final long[] run;
        /** Of the x that is looked at: the lines that go on to its right, the lowest lone knot (or -1), the next x. */
        final int[] live;
        int lives = 0;
        int lone = -1;
        int next = BEYOND;

        Lines(int most) {
            from = new int[most];
            to = new int[most];
            base = new long[most];
            rise = new long[most];
            run = new long[most];
            live = new int[most];
        }

        void start() {
            many = 0;
        }

        void addLine(int least, int greatest, long atZero, long up, long along) {
            if (many >= from.length || along <= 0 || least > greatest) {
                return;
            }
            from[many] = least;
            to[many] = greatest;
            base[many] = atZero;
            rise[many] = up;
            run[many] = along;
            many++;
        }

        void addBetween(long x, long y, long along, long up) {
            if (along == 0) {
                addLine((int) x, (int) x, y, 0, 1);
            } else {
                addLine((int) x, (int) (x + along), y * along - up * x, up, along);
            }
        }

        void addShape(Shape shape) {
            for (int k = 0; k < shape.knots; k++) {
                if (shape.beginsPiece(k)) {
                    addBetween(shape.xUpper[k], shape.yUpper[k], shape.runOf(k), shape.riseOf(k));
                }
            }
        }

        void addSum(Lines f, int k, Lines g, int m) {
            int least = Math.max(f.from[k], g.from[m]);
            int greatest = Math.min(f.to[k], g.to[m]);
            long atZero = f.base[k] * g.run[m] + g.base[m] * f.run[k];
            long up = f.rise[k] * g.run[m] + g.rise[m] * f.run[k];
            addLine(least, greatest, atZero, up, f.run[k] * g.run[m]);
        }

        /** Both laid one behind the other, the less steep one first. */
        void addJoined(Lines f, int k, Lines g, int m) {
            long x = (long) f.from[k] + g.from[m];
            long y = f.firstY(k) + g.firstY(m);
            long runF = f.to[k] - f.from[k];
            long runG = g.to[m] - g.from[m];
            if (runF == 0) {
                addBetween(x, y, runG, g.rise[m]);
            } else if (runG == 0) {
                addBetween(x, y, runF, f.rise[k]);
            } else if (f.rise[k] * runG <= g.rise[m] * runF) {
                addBetween(x, y, runF, f.rise[k]);
                addBetween(x + runF, y + f.rise[k], runG, g.rise[m]);
            } else {
                addBetween(x, y, runG, g.rise[m]);
                addBetween(x + runG, y + g.rise[m], runF, f.rise[k]);
            }
        }

        /** The y of a STORE's line at its begin, which is whole. */
        long firstY(int k) {
            long along = run[k];
            return along == 0 ? 0 : (base[k] + rise[k] * from[k]) / along;
        }

        void addTurned(Shape shape) {
            for (int k = 0; k < shape.knots; k++) {
                if (!shape.beginsPiece(k)) {
                    continue;
                }
                int left = k;
                int right = shape.endOfPiece(k);
                if (shape.yUpper[right] < shape.yUpper[left]) {
                    left = right;
                    right = k;
                }
                addBetween(shape.yUpper[left], shape.xUpper[left],
                        shape.yUpper[right] - shape.yUpper[left], shape.xUpper[right] - shape.xUpper[left]);
            }
        }

        void addHull(Shape shape) {
            if (shape.knots == 0) {
                return;
            }
            // a lone KNOT that is higher is none, so that at the least x the first KNOT is the lowest
            int now = 0;
            addBetween(shape.xUpper[now], shape.yUpper[now], 0, 0);
            for (int step = 0; step < shape.knots; step++) {
                int next = shape.hullNext(now);
                if (next < 0) {
                    return;
                }
                addBetween(shape.xUpper[now], shape.yUpper[now],
                        shape.xUpper[next] - shape.xUpper[now], shape.yUpper[next] - shape.yUpper[now]);
                now = next;
            }
        }

        void addCut(Lines f, int k, int least, int greatest) {
            addLine(Math.max(f.from[k], least), Math.min(f.to[k], greatest), f.base[k], f.rise[k], f.run[k]);
        }

        void addMoved(Lines f, int k, int x, int y) {
            long atZero = f.base[k] + y * f.run[k] - f.rise[k] * x;
            addLine(f.from[k] + x, f.to[k] + x, atZero, f.rise[k], f.run[k]);
        }

        void addMultiple(Lines f, int k, int by) {
            addLine(f.from[k], f.to[k], f.base[k] * by, f.rise[k] * by, f.run[k]);
        }

        /**
         * UNDER all lines: goes from each x at which a line begins or ends to the next one; between
         * them the same lines live, and the lowest is followed from crossing to crossing.
         */
        void lowestInto(Shape out) {
            out.wipe();
            int left = -1;
            int x = Integer.MIN_VALUE;
            for (int step = 0; step <= 2 * many && x != BEYOND; step++) {
                lookAt(x);
                int right = lowestLive(x);
                meetAt(out, x, left, right);
                left = follow(out, right);
                x = next;
            }
        }

        /** Finds what lives behind an x, its lowest lone knot, and the next x where a line begins or ends. */
        void lookAt(int x) {
            lives = 0;
            lone = -1;
            next = BEYOND;
            for (int k = 0; k < many; k++) {
                if (from[k] > x) {
                    next = Math.min(next, from[k]);
                } else if (to[k] > x) {
                    next = Math.min(next, to[k]);
                    live[lives] = k;
                    lives++;
                } else if (from[k] == x && (lone < 0 || orderAt(k, lone, x) < 0)) {
                    lone = k;
                }
            }
        }

        /** Of those that live the one that is lowest at x and just behind it; -1 without any. */
        int lowestLive(int x) {
            int low = -1;
            for (int k = 0; k < lives; k++) {
                int line = live[k];
                int order = low < 0 ? -1 : orderAt(line, low, x);
                if (order < 0 || order == 0 && steepness(line, low) < 0) {
                    low = line;
                }
            }
            return low;
        }

        int orderAt(int k, int m, int x) {
            return Ratio.order(base[k] + rise[k] * x, run[k], base[m] + rise[m] * x, run[m]);
        }

        /** Below 0 if line k rises less than line m. */
        int steepness(int k, int m) {
            return Long.compare(rise[k] * run[m], rise[m] * run[k]);
        }

        /** The knots at an x to which one line comes and from which another goes (each of them or -1). */
        void meetAt(Shape out, int x, int left, int right) {
            boolean loneIsLowest = lone >= 0
                    && (left < 0 || orderAt(lone, left, x) < 0)
                    && (right < 0 || orderAt(lone, right, x) < 0);
            if (left >= 0 && right >= 0 && !loneIsLowest && orderAt(left, right, x) == 0) {
                if (steepness(left, right) != 0) {
                    addEnd(out, x, right, true);
                }
                return;
            }
            if (left >= 0) {
                addEnd(out, x, left, false);
            }
            if (loneIsLowest) {
                addEnd(out, x, lone, false);
            }
            if (right >= 0) {
                addEnd(out, x, right, true);
            }
        }

        void addEnd(Shape out, int x, int line, boolean lineFollows) {
            out.addKnot(x, 1, base[line] + rise[line] * x, run[line], lineFollows);
        }

        /** From the line that is lowest now to the one that is lowest just ahead of the next x. */
        int follow(Shape out, int line) {
            int now = line;
            for (int step = 0; step < lives && now >= 0; step++) {
                int then = firstCrossing(now);
                if (then < 0) {
                    return now;
                }
                long bottom = crossingBottom(now, then);
                long yTop = base[then] * rise[now] - base[now] * rise[then];
                out.addKnot(crossingTop(now, then), bottom, yTop, bottom, true);
                now = then;
            }
            return now;
        }

        /** The line that first comes below this one ahead of the next x; of several there the least steep. */
        int firstCrossing(int now) {
            int found = -1;
            long foundTop = 0;
            long foundBottom = 1;
            for (int k = 0; k < lives; k++) {
                int line = live[k];
                long bottom = crossingBottom(now, line);
                if (bottom <= 0) {
                    continue;
                }
                long top = crossingTop(now, line);
                if (top >= bottom * next) {
                    continue;
                }
                int order = found < 0 ? -1 : Ratio.order(top, bottom, foundTop, foundBottom);
                if (order < 0 || order == 0 && steepness(line, found) < 0) {
                    found = line;
                    foundTop = top;
                    foundBottom = bottom;
                }
            }
            return found;
        }

        /** The x of a crossing is its top by its bottom; the bottom is above 0 if the second one rises less. */
        long crossingTop(int now, int then) {
            return base[then] * run[now] - base[now] * run[then];
        }

        long crossingBottom(int now, int then) {
            return rise[now] * run[then] - rise[then] * run[now];
        }
    }

    /** The latest acts: of each the slot that it wrote and what had stood there. */
    private static final class History {
        int many = 0;
        int takenAct = 0;
        private int next = 0;
        private final int[] act = new int[UNDOABLE];
        private final int[] slot = new int[UNDOABLE];
        private final Shape[] was = new Shape[UNDOABLE];

        History() {
            for (int k = 0; k < UNDOABLE; k++) {
                was[k] = new Shape();
            }
        }

        void forget() {
            many = 0;
        }

        /** Keeps a shape, and hands out one that nobody needs any more. */
        Shape keep(int which, int where, Shape shape) {
            Shape free = was[next];
            act[next] = which;
            slot[next] = where;
            was[next] = shape;
            next = (next + 1) % UNDOABLE;
            many = Math.min(many + 1, UNDOABLE);
            return free;
        }

        int latestSlot() {
            return slot[latest()];
        }

        /** The shape that stood there; the one that stands there now is free then. */
        Shape takeBack(Shape now) {
            int at = latest();
            Shape shape = was[at];
            was[at] = now;
            takenAct = act[at];
            next = at;
            many = Math.max(many - 1, 0);
            return shape;
        }

        private int latest() {
            return (next + UNDOABLE - 1) % UNDOABLE;
        }
    }

    /** Tells which of two shapes is ever lower: at their knots, and just beside them. */
    private static final class Rivals {
        private boolean met = false;
        private boolean firstLower = false;
        private boolean secondLower = false;
        private final Ratio ofFirst = new Ratio();
        private final Ratio ofSecond = new Ratio();

        void start() {
            met = false;
            firstLower = false;
            secondLower = false;
        }

        void meetAtKnotsOf(Shape knots, Shape f, Shape g) {
            for (int k = 0; k < knots.knots; k++) {
                int x = knots.xAt(k);
                f.valueAt(x, ofFirst);
                g.valueAt(x, ofSecond);
                judge();
                f.leftEndAt(x, ofFirst);
                g.leftEndAt(x, ofSecond);
                judge();
                f.rightBeginAt(x, ofFirst);
                g.rightBeginAt(x, ofSecond);
                judge();
            }
        }

        private void judge() {
            if (!ofFirst.known || !ofSecond.known) {
                return;
            }
            met = true;
            int order = ofFirst.orderTo(ofSecond);
            firstLower = firstLower || order < 0;
            secondLower = secondLower || order > 0;
        }

        int verdict() {
            if (!met) {
                return 3;
            }
            if (firstLower && secondLower) {
                return 2;
            }
            if (firstLower) {
                return -1;
            }
            return secondLower ? 1 : 0;
        }
    }

    /** The TAPE, and the reading of its TEXT, which stops at the first fault. */
    private static final class Tape {
        int length = 0;
        int faultPlace = NONE;
        private final byte[] text = new byte[TAPE_BYTES];
        private int at = 0;
        private int number = 0;
        /** The latest FRACTION: where it began, and which place it is. */
        private int begin = 0;
        private int place = 0;
        private int knots = 0;
        private int knotsOfPart = 0;
        /** The latest KNOT. */
        private int x = 0;
        private int y = 0;

        void appendWord(int word) {
            for (int shift = 24; shift >= 0 && length < TAPE_BYTES; shift -= 8) {
                text[length] = (byte) (word >>> shift);
                length++;
            }
        }

        boolean readText(Lines lines) {
            at = 0;
            knots = 0;
            knotsOfPart = 0;
            faultPlace = NONE;
            for (int step = 0; step <= length; step++) {
                if (!readKnot(lines)) {
                    return false;
                }
                skipBlanks();
                if (at >= length) {
                    endPart(lines);
                    return true;
                }
                if (takeSign('|')) {
                    endPart(lines);
                }
            }
            return fail(length);
        }

        private boolean readKnot(Lines lines) {
            skipBlanks();
            if (knots >= STORE_KNOTS) {
                // a 13th KNOT is wrong from its first byte on, whatever stands in it
                return fail(at);
            }
            if (!readFraction()) {
                return false;
            }
            int nextX = place;
            boolean tooEarly = knots > 0 && (knotsOfPart > 0 ? nextX <= x : nextX < x);
            if (tooEarly) {
                return fail(begin);
            }
            skipBlanks();
            if (!takeSign(',')) {
                return fail(at);
            }
            if (!readFraction()) {
                return false;
            }
            addReadKnot(lines, nextX, place);
            return true;
        }

        private void addReadKnot(Lines lines, int nextX, int nextY) {
            if (knotsOfPart > 0) {
                lines.addBetween(x, y, nextX - x, nextY - y);
            }
            x = nextX;
            y = nextY;
            knots++;
            knotsOfPart++;
        }

        private void endPart(Lines lines) {
            if (knotsOfPart == 1) {
                lines.addBetween(x, y, 0, 0);
            }
            knotsOfPart = 0;
        }

        private boolean readFraction() {
            skipBlanks();
            begin = at;
            boolean below = takeSign('-');
            if (!readNumber(0, 9999)) {
                return false;
            }
            int top = number * SIXTIETHS;
            int bottom = 1;
            skipBlanks();
            if (takeSign('/')) {
                if (!readNumber(1, 60)) {
                    return false;
                }
                bottom = number;
            }
            if (bottom <= 0 || top % bottom != 0 || top / bottom > GREATEST_PLACE) {
                return fail(begin);
            }
            place = below ? -(top / bottom) : top / bottom;
            return true;
        }

        private boolean readNumber(int least, int greatest) {
            skipBlanks();
            int start = at;
            int told = 0;
            while (at < length && isDigit(text[at])) {
                // one above the greatest stands for all that are too great, however many digits follow
                told = Math.min(told * 10 + (text[at] - '0'), greatest + 1);
                at++;
            }
            if (at == start || told < least || told > greatest) {
                return fail(start);
            }
            number = told;
            return true;
        }

        private static boolean isDigit(int sign) {
            return sign >= '0' && sign <= '9';
        }

        private void skipBlanks() {
            while (at < length && text[at] == ' ') {
                at++;
            }
        }

        private boolean takeSign(char sign) {
            if (at < length && text[at] == sign) {
                at++;
                return true;
            }
            return false;
        }

        private boolean fail(int where) {
            faultPlace = where;
            return false;
        }
    }
}
