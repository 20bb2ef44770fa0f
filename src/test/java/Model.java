import java.util.ArrayList;
import java.util.Arrays;
import java.util.List;
import java.util.TreeSet;
import java.util.function.UnaryOperator;

/**
 * The document once more, the slow way: a function is what it answers at an x, and its knots are
 * found by asking at every x where it might turn and twice between each two of these. It shares no
 * way of working with LeastSums (plain numbers instead of sixtieths, no lines that are followed).
 */
final class Model {
    static final long NOTHING = Long.MIN_VALUE;
    static final int ABSENT = Integer.MIN_VALUE;

    record Knot(Fraction x, Fraction y, boolean goesOn) { }

    record State(List<List<Knot>> store, List<Knot> paper) { }

    record Done(int act, State before) { }

    private List<List<Knot>> store = new ArrayList<>();
    private List<Knot> paper = List.of();
    private final List<Done> done = new ArrayList<>();
    private final State[] images = new State[2];
    private byte[] tape = new byte[0];
    private int fault = -1;
    private int status = 0;
    private final int[] refused = new int[7];

    Model() {
        for (int k = 0; k < 6; k++) {
            store.add(List.of());
        }
    }

    // ---- functions as what they answer

    static Fraction place(long x) {
        return Fraction.of(x, 60);
    }

    static Fraction valueAt(List<Knot> f, Fraction x) {
        Fraction low = null;
        for (int k = 0; k < f.size(); k++) {
            Knot a = f.get(k);
            if (a.x().equals(x)) {
                low = Fraction.least(low, a.y());
            }
            if (a.goesOn() && a.x().compareTo(x) <= 0 && x.compareTo(f.get(k + 1).x()) <= 0) {
                low = Fraction.least(low, onLine(a, f.get(k + 1), x));
            }
        }
        return low;
    }

    static Fraction onLine(Knot a, Knot b, Fraction x) {
        return a.y().plus(slopeOf(a, b).times(x.minus(a.x())));
    }

    static Fraction slopeOf(Knot a, Knot b) {
        return b.y().minus(a.y()).by(b.x().minus(a.x()));
    }

    static TreeSet<Fraction> knotXs(List<List<Knot>> fs) {
        TreeSet<Fraction> xs = new TreeSet<>();
        for (List<Knot> f : fs) {
            for (Knot k : f) {
                xs.add(k.x());
            }
        }
        return xs;
    }

    /** A knot's two sides: the line that lies there, from two answers between two neighbours. */
    private record Side(Fraction begin, Fraction end, Fraction slope) {
        static Side between(UnaryOperator<Fraction> f, Fraction a, Fraction b) {
            Fraction third = b.minus(a).by(Fraction.of(3, 1));
            Fraction near = f.apply(a.plus(third));
            Fraction far = f.apply(b.minus(third));
            if (near == null || far == null) {
                return null;
            }
            Fraction step = far.minus(near);
            return new Side(near.minus(step), far.plus(step), step.by(third));
        }
    }

    static List<Knot> told(UnaryOperator<Fraction> f, TreeSet<Fraction> turns) {
        List<Knot> out = new ArrayList<>();
        Side left = null;
        for (Fraction x : turns) {
            Fraction next = turns.higher(x);
            Side right = next == null ? null : Side.between(f, x, next);
            Fraction value = f.apply(x);
            boolean leftLow = left != null && left.end().equals(value);
            boolean rightLow = right != null && right.begin().equals(value);
            if (leftLow && rightLow) {
                if (!left.slope().equals(right.slope())) {
                    out.add(new Knot(x, value, true));
                }
            } else {
                if (left != null) {
                    out.add(new Knot(x, left.end(), false));
                }
                if (value != null && !leftLow && !rightLow) {
                    out.add(new Knot(x, value, false));
                }
                if (right != null) {
                    out.add(new Knot(x, right.begin(), true));
                }
            }
            left = right;
        }
        return out;
    }

    /** Adds every x at which two of the given lines (x, y, x, y) cross. */
    static void addCrossings(TreeSet<Fraction> xs, List<Fraction[]> lines) {
        for (int k = 0; k < lines.size(); k++) {
            for (int m = 0; m < k; m++) {
                Fraction[] a = lines.get(k);
                Fraction[] b = lines.get(m);
                Fraction slopeA = a[3].minus(a[1]).by(a[2].minus(a[0]));
                Fraction slopeB = b[3].minus(b[1]).by(b[2].minus(b[0]));
                if (slopeA.equals(slopeB)) {
                    continue;
                }
                Fraction top = b[1].minus(slopeB.times(b[0])).minus(a[1]).plus(slopeA.times(a[0]));
                Fraction x = top.by(slopeA.minus(slopeB));
                if (x.compareTo(a[0]) >= 0 && x.compareTo(a[2]) <= 0 && x.compareTo(b[0]) >= 0 && x.compareTo(b[2]) <= 0) {
                    xs.add(x);
                }
            }
        }
    }

    static void addLines(List<Fraction[]> lines, List<Knot> f, Fraction x, Fraction y) {
        for (int k = 0; k + 1 < f.size(); k++) {
            if (f.get(k).goesOn()) {
                Knot a = f.get(k);
                Knot b = f.get(k + 1);
                lines.add(new Fraction[] {a.x().plus(x), a.y().plus(y), b.x().plus(x), b.y().plus(y)});
            }
        }
    }

    static TreeSet<Fraction> turnsOfBoth(List<Knot> f, List<Knot> g) {
        TreeSet<Fraction> xs = knotXs(List.of(f, g));
        List<Fraction[]> lines = new ArrayList<>();
        addLines(lines, f, Fraction.ZERO, Fraction.ZERO);
        addLines(lines, g, Fraction.ZERO, Fraction.ZERO);
        addCrossings(xs, lines);
        return xs;
    }

    static Fraction sumAt(List<Knot> f, List<Knot> g, Fraction x) {
        Fraction a = valueAt(f, x);
        Fraction b = valueAt(g, x);
        return a == null || b == null ? null : a.plus(b);
    }

    /** The share of the first one by which the two together are least at x, and that least. */
    static Fraction[] leastSum(List<Knot> f, List<Knot> g, Fraction x) {
        TreeSet<Fraction> shares = knotXs(List.of(f));
        for (Knot k : g) {
            shares.add(x.minus(k.x()));
        }
        Fraction[] best = null;
        for (Fraction u : shares) {
            Fraction a = valueAt(f, u);
            Fraction b = valueAt(g, x.minus(u));
            if (a != null && b != null && (best == null || a.plus(b).below(best[1]))) {
                best = new Fraction[] {u, a.plus(b)};
            }
        }
        return best;
    }

    static List<Knot> joined(List<Knot> f, List<Knot> g) {
        TreeSet<Fraction> xs = new TreeSet<>();
        List<Fraction[]> lines = new ArrayList<>();
        for (Knot a : f) {
            addLines(lines, g, a.x(), a.y());
            for (Knot b : g) {
                xs.add(a.x().plus(b.x()));
            }
        }
        for (Knot b : g) {
            addLines(lines, f, b.x(), b.y());
        }
        addCrossings(xs, lines);
        return told(x -> {
            Fraction[] best = leastSum(f, g, x);
            return best == null ? null : best[1];
        }, xs);
    }

    /** Below every chord between two knots. */
    static Fraction hullAt(List<Knot> f, Fraction x) {
        Fraction low = null;
        for (Knot a : f) {
            for (Knot b : f) {
                if (a.x().equals(x)) {
                    low = Fraction.least(low, a.y());
                } else if (a.x().below(x) && x.below(b.x())) {
                    low = Fraction.least(low, onLine(a, b, x));
                }
            }
        }
        return low;
    }

    static boolean turnable(List<Knot> f) {
        boolean rise = true;
        boolean fall = true;
        for (int k = 0; k + 1 < f.size(); k++) {
            if (f.get(k).x().equals(f.get(k + 1).x())) {
                return false;
            }
            rise &= f.get(k).y().below(f.get(k + 1).y());
            fall &= f.get(k + 1).y().below(f.get(k).y());
        }
        return rise || fall;
    }

    static List<Knot> turned(List<Knot> f) {
        List<Knot> out = new ArrayList<>();
        boolean fall = f.size() > 1 && f.get(1).y().below(f.get(0).y());
        for (int k = 0; k < f.size(); k++) {
            Knot a = f.get(fall ? f.size() - 1 - k : k);
            boolean on = fall ? k + 1 < f.size() && f.get(f.size() - 2 - k).goesOn() : a.goesOn();
            out.add(new Knot(a.y(), a.x(), on));
        }
        return out;
    }

    // ---- acts

    private int refuse(int by) {
        status = by;
        refused[-by]++;
        return by;
    }

    private void keep(int act) {
        done.add(new Done(act, now()));
        if (done.size() > 8) {
            done.remove(0);
        }
        status = 0;
    }

    private State now() {
        return new State(new ArrayList<>(store), paper);
    }

    private void return_(State s) {
        store = new ArrayList<>(s.store());
        paper = s.paper();
    }

    private int stored(int act, int i, List<Knot> f) {
        keep(act);
        store.set(i, f);
        return f.size();
    }

    private int papered(int act, List<Knot> f) {
        keep(act);
        paper = f;
        return f.size();
    }

    static boolean isPlace(int x) {
        return Math.abs((long) x) <= 5940;
    }

    static boolean noStore(int... which) {
        return Arrays.stream(which).anyMatch(i -> i < 0 || i > 5);
    }

    int feed(int a, int b, int c, int d, int e) {
        if (tape.length > 380) {
            return -1;
        }
        java.nio.ByteBuffer more = java.nio.ByteBuffer.allocate(tape.length + 20);
        tape = more.put(tape).putInt(a).putInt(b).putInt(c).putInt(d).putInt(e).array();
        return tape.length;
    }

    int end(int n) {
        if (n < 0 || n > tape.length) {
            return -1;
        }
        tape = Arrays.copyOf(tape, n);
        return n;
    }

    int read(int i) {
        if (noStore(i)) {
            return refuse(-2);
        }
        ModelText text = new ModelText(tape);
        tape = new byte[0];
        fault = text.fault;
        if (fault >= 0) {
            return refuse(-6);
        }
        return stored(0, i, told(x -> valueAt(text.knots, x), knotXs(List.of(text.knots))));
    }

    int fault() {
        return fault;
    }

    int dot(int i, int x, int y) {
        if (!isPlace(x) || !isPlace(y)) {
            return refuse(-1);
        }
        return noStore(i) ? refuse(-2) : stored(1, i, List.of(new Knot(place(x), place(y), false)));
    }

    int clear(int i) {
        if (noStore(i)) {
            return refuse(-2);
        }
        int had = store.get(i).size();
        stored(2, i, List.of());
        return had;
    }

    int sum(int i, int j) {
        if (noStore(i, j)) {
            return refuse(-2);
        }
        return papered(3, told(x -> sumAt(store.get(i), store.get(j), x), knotXs(List.of(store.get(i), store.get(j)))));
    }

    int under(int i, int j) {
        if (noStore(i, j)) {
            return refuse(-2);
        }
        List<Knot> f = store.get(i);
        List<Knot> g = store.get(j);
        return papered(4, told(x -> Fraction.least(valueAt(f, x), valueAt(g, x)), turnsOfBoth(f, g)));
    }

    int join(int i, int j) {
        return noStore(i, j) ? refuse(-2) : papered(5, joined(store.get(i), store.get(j)));
    }

    int turn(int i) {
        if (noStore(i)) {
            return refuse(-2);
        }
        return turnable(store.get(i)) ? papered(6, turned(store.get(i))) : refuse(-4);
    }

    int hull(int i) {
        if (noStore(i)) {
            return refuse(-2);
        }
        List<Knot> f = store.get(i);
        return papered(7, told(x -> hullAt(f, x), knotXs(List.of(f))));
    }

    int cut(int i, int from, int to) {
        if (!isPlace(from) || !isPlace(to) || from > to) {
            return refuse(-1);
        }
        if (noStore(i)) {
            return refuse(-2);
        }
        TreeSet<Fraction> xs = knotXs(List.of(store.get(i)));
        xs.add(place(from));
        xs.add(place(to));
        return papered(8, told(x -> x.below(place(from)) || place(to).below(x) ? null : valueAt(store.get(i), x), xs));
    }

    int move(int i, int x, int y) {
        if (!isPlace(x) || !isPlace(y)) {
            return refuse(-1);
        }
        if (noStore(i)) {
            return refuse(-2);
        }
        List<Knot> out = new ArrayList<>();
        for (Knot k : store.get(i)) {
            out.add(new Knot(k.x().plus(place(x)), k.y().plus(place(y)), k.goesOn()));
        }
        return papered(9, out);
    }

    int times(int i, int by) {
        if (by < 0 || by > 60) {
            return refuse(-1);
        }
        if (noStore(i)) {
            return refuse(-2);
        }
        List<Knot> f = store.get(i);
        return papered(10, told(x -> {
            Fraction y = valueAt(f, x);
            return y == null ? null : y.times(by);
        }, knotXs(List.of(f))));
    }

    int lay(int i) {
        return noStore(i) ? refuse(-2) : papered(11, store.get(i));
    }

    boolean fits() {
        return paper.size() <= 12 && paper.stream().allMatch(k -> isStoredPlace(k.x()) && isStoredPlace(k.y()));
    }

    static boolean isStoredPlace(Fraction x) {
        Fraction sixtieths = x.times(60);
        return sixtieths.lower().intValue() == 1 && sixtieths.upper().abs().longValue() <= 5940
                && sixtieths.lower().bitLength() == 1;
    }

    int put(int i) {
        if (noStore(i)) {
            return refuse(-2);
        }
        return fits() ? stored(12, i, paper) : refuse(-5);
    }

    int undo() {
        if (done.isEmpty()) {
            return refuse(-4);
        }
        Done last = done.remove(done.size() - 1);
        return_(last.before());
        status = 0;
        return last.act();
    }

    int image(int k) {
        if (k < 0 || k > 1) {
            return refuse(-1);
        }
        images[k] = now();
        status = 0;
        return allKnots();
    }

    int back(int k) {
        if (k < 0 || k > 1) {
            return refuse(-1);
        }
        if (images[k] == null) {
            return refuse(-2);
        }
        return_(images[k]);
        done.clear();
        status = 0;
        return allKnots();
    }

    int allKnots() {
        return store.stream().mapToInt(List::size).sum();
    }

    // ---- questions

    static long tell(Fraction f, int what) {
        if (f == null || what < 0 || what > 1) {
            return NOTHING;
        }
        return what == 0 ? f.upper().longValueExact() : f.lower().longValueExact();
    }

    long paper(int k, int what) {
        if (k < 0 || k >= paper.size() || what < 0 || what > 4) {
            return NOTHING;
        }
        if (what == 4) {
            return paper.get(k).goesOn() ? 1 : 0;
        }
        return what < 2 ? tell(paper.get(k).x(), what) : tell(paper.get(k).y(), what - 2);
    }

    int knot(int i, int k, int what) {
        if (noStore(i) || k < 0 || k >= store.get(i).size() || what < 0 || what > 2) {
            return ABSENT;
        }
        Knot a = store.get(i).get(k);
        return what == 2 ? (a.goesOn() ? 1 : 0) : sixtieths(what == 0 ? a.x() : a.y());
    }

    static int sixtieths(Fraction x) {
        return x.times(60).upper().intValueExact();
    }

    long value(int i, int x, int what) {
        return noStore(i) || !isPlace(x) ? NOTHING : tell(valueAt(store.get(i), place(x)), what);
    }

    int bits(int i, int x) {
        Fraction y = noStore(i) || !isPlace(x) ? null : valueAt(store.get(i), place(x));
        return y == null ? 0 : Float.floatToIntBits((float) y.upper().longValue() / (float) y.lower().longValue());
    }

    long limit(int i, int x, int what) {
        if (noStore(i) || !isPlace(x) || what < 0 || what > 3) {
            return NOTHING;
        }
        List<Knot> f = store.get(i);
        TreeSet<Fraction> xs = knotXs(List.of(f));
        Fraction at = place(x);
        Fraction beside = what < 2 ? xs.lower(at) : xs.higher(at);
        if (beside == null) {
            return NOTHING;
        }
        Side side = what < 2 ? Side.between(u -> valueAt(f, u), beside, at) : Side.between(u -> valueAt(f, u), at, beside);
        return side == null ? NOTHING : tell(what < 2 ? side.end() : side.begin(), what % 2);
    }

    static List<Fraction> slopes(List<Knot> f) {
        List<Fraction> out = new ArrayList<>();
        for (int k = 0; k < f.size(); k++) {
            if (f.get(k).goesOn()) {
                out.add(slopeOf(f.get(k), f.get(k + 1)));
            }
        }
        return out;
    }

    static int slopesThat(List<Knot> f, int order) {
        List<Fraction> s = slopes(f);
        int n = 0;
        for (int k = 0; k + 1 < s.size(); k++) {
            n += s.get(k + 1).compareTo(s.get(k)) == order ? 1 : 0;
        }
        return n;
    }

    static int partsOf(List<Knot> f) {
        return (int) f.stream().filter(k -> !k.goesOn()).count();
    }

    int of(int i, int what) {
        if (noStore(i)) {
            return ABSENT;
        }
        List<Knot> f = store.get(i);
        switch (what) {
            case 0: return f.size();
            case 1: return partsOf(f);
            case 2: return slopes(f).size();
            case 3: return f.size() - knotXs(List.of(f)).size();
            case 4: return partsOf(f) == 1 && slopesThat(f, 1) == Math.max(0, slopes(f).size() - 1) ? 1 : 0;
            case 5: return f.isEmpty() ? ABSENT : sixtieths(f.get(0).x());
            case 6: return f.isEmpty() ? ABSENT : sixtieths(f.get(f.size() - 1).x());
            case 7: return underLines(f);
            case 8: return turnable(f) ? 1 : 0;
            case 9: return slopesThat(f, -1);
            default: return ABSENT;
        }
    }

    static int underLines(List<Knot> f) {
        int all = 0;
        for (int k = 0; k < f.size(); k++) {
            all += f.get(k).goesOn() ? sixtieths(f.get(k + 1).x().minus(f.get(k).x())) : 0;
        }
        return all;
    }

    int least(int i, int what) {
        if (noStore(i) || store.get(i).isEmpty() || what < 0 || what > 3) {
            return ABSENT;
        }
        TreeSet<Fraction> ys = new TreeSet<>();
        store.get(i).forEach(k -> ys.add(k.y()));
        if (what == 0 || what == 3) {
            return sixtieths(what == 0 ? ys.first() : ys.last());
        }
        TreeSet<Fraction> xs = knotXs(List.of(store.get(i)));
        xs.removeIf(x -> !valueAt(store.get(i), x).equals(ys.first()));
        return sixtieths(what == 1 ? xs.first() : xs.last());
    }

    long slope(int i, int k, int what) {
        return noStore(i) || k < 0 || k >= slopes(store.get(i)).size() ? NOTHING : tell(slopes(store.get(i)).get(k), what);
    }

    long area(int i, int what) {
        if (noStore(i)) {
            return NOTHING;
        }
        Fraction all = Fraction.ZERO;
        List<Knot> f = store.get(i);
        for (int k = 0; k < f.size(); k++) {
            if (f.get(k).goesOn()) {
                Fraction middle = f.get(k).y().plus(f.get(k + 1).y()).by(Fraction.of(2, 1));
                all = all.plus(middle.times(f.get(k + 1).x().minus(f.get(k).x())));
            }
        }
        return tell(all, what);
    }

    long where(int i, int y, int what) {
        if (noStore(i) || !isPlace(y)) {
            return NOTHING;
        }
        List<Knot> f = store.get(i);
        TreeSet<Fraction> xs = knotXs(List.of(f));
        for (int k = 0; k < f.size(); k++) {
            if (f.get(k).goesOn() && !f.get(k).y().equals(f.get(k + 1).y())) {
                Fraction x = f.get(k).x().plus(place(y).minus(f.get(k).y()).by(slopeOf(f.get(k), f.get(k + 1))));
                if (x.compareTo(f.get(k).x()) >= 0 && x.compareTo(f.get(k + 1).x()) <= 0) {
                    xs.add(x);
                }
            }
        }
        for (Fraction x : xs) {
            if (place(y).equals(valueAt(f, x))) {
                return tell(x, what);
            }
        }
        return NOTHING;
    }

    int places(int i, int x, int z) {
        if (noStore(i) || !isPlace(x) || !isPlace(z) || x > z) {
            return -1;
        }
        int all = 0;
        List<Knot> f = store.get(i);
        for (int u = x; u <= z; u++) {
            all += covered(f, u) ? 1 : 0;
        }
        return all;
    }

    private static boolean covered(List<Knot> f, int u) {
        for (int k = 0; k < f.size(); k++) {
            int end = f.get(k).goesOn() ? k + 1 : k;
            if (u >= sixtieths(f.get(k).x()) && u <= sixtieths(f.get(end).x())) {
                return true;
            }
        }
        return false;
    }

    long split(int i, int j, int x, int what) {
        if (noStore(i, j) || !isPlace(x) || what < 0 || what > 3) {
            return NOTHING;
        }
        Fraction[] best = leastSum(store.get(i), store.get(j), place(x));
        return best == null ? NOTHING : tell(what < 2 ? best[1] : best[0], what % 2);
    }

    int compare(int i, int j) {
        if (noStore(i, j)) {
            return -2;
        }
        List<Knot> f = store.get(i);
        List<Knot> g = store.get(j);
        TreeSet<Fraction> xs = turnsOfBoth(f, g);
        for (Fraction x : new ArrayList<>(xs)) {
            if (xs.higher(x) != null) {
                xs.add(x.plus(xs.higher(x)).by(Fraction.of(2, 1)));
            }
        }
        boolean met = false;
        boolean lower = false;
        boolean higher = false;
        for (Fraction x : xs) {
            Fraction a = valueAt(f, x);
            Fraction b = valueAt(g, x);
            if (a != null && b != null) {
                met = true;
                lower |= a.below(b);
                higher |= b.below(a);
            }
        }
        if (!met) {
            return 3;
        }
        return lower && higher ? 2 : lower ? -1 : higher ? 1 : 0;
    }

    int count(int what) {
        if (what >= 0 && what < 6) {
            return store.get(what).size();
        }
        switch (what) {
            case 6: return paper.size();
            case 7: return partsOf(paper);
            case 8: return fits() ? 1 : 0;
            case 9: return done.size();
            case 10: return tape.length;
            case 11: return refused[1];
            case 12: return refused[2];
            case 13: return refused[4];
            case 14: return refused[5];
            case 15: return refused[6];
            default: return -1;
        }
    }

    int status() {
        return status;
    }
}
