import java.lang.management.ManagementFactory;
import java.nio.ByteBuffer;
import java.nio.charset.StandardCharsets;
import java.util.ArrayList;
import java.util.Arrays;
import java.util.List;
import java.util.Random;
import java.util.TreeSet;

/** Joins of functions of twelve knots all over the field: their answers, and the room that they take. */
public final class DearCallsTest {
    private static final long ROOM_BYTES = 3_000_000;
    /** An object serves for 512 calls. */
    private static final int KNOTS_OF_OBJECT = 90;
    private static int wrong = 0;

    public static void main(String[] args) {
        Random draw = new Random(77);
        for (int run = 0; run < 25; run++) {
            checkJoin(draw, run % 5);
        }
        checkRoom(draw);
        System.out.println(wrong == 0 ? "DearCallsTest: as due" : "DearCallsTest: " + wrong + " wrong");
        if (wrong != 0) {
            System.exit(1);
        }
    }

    private static void must(boolean holds, String what) {
        if (!holds && wrong++ < 10) {
            System.out.println("DearCallsTest: " + what);
        }
    }

    private static String text(Random draw, int kind) {
        TreeSet<Integer> xs = new TreeSet<>();
        while (xs.size() < 12) {
            xs.add(draw.nextInt(11881) - 5940);
        }
        StringBuilder text = new StringBuilder();
        int k = 0;
        for (int x : xs) {
            int y;
            switch (kind) {
                case 0: y = draw.nextInt(11881) - 5940; break;
                case 1: y = (k % 2 == 0 ? 5900 : -5900) + draw.nextInt(40); break;
                case 2: y = -(x / 80) * (x / 80) + draw.nextInt(20); break;
                default: y = (k % 2 == 0 ? 300 : -300) + draw.nextInt(3000);
            }
            text.append(k++ == 0 ? "" : kind == 3 && draw.nextInt(3) == 0 ? "|" : " ").append(x).append("/60,").append(y).append("/60");
        }
        return text.toString();
    }

    private static void read(LeastSums mine, int i, String text) {
        byte[] bytes = text.getBytes(StandardCharsets.ISO_8859_1);
        for (int at = 0; at < bytes.length; at += 20) {
            ByteBuffer w = ByteBuffer.wrap(Arrays.copyOfRange(bytes, at, at + 20));
            mine.feed(w.getInt(), w.getInt(), w.getInt(), w.getInt(), w.getInt());
        }
        mine.end(bytes.length);
        must(mine.read(i) > 0, "not read: " + text);
    }

    private static List<Model.Knot> stored(LeastSums mine, int i) {
        List<Model.Knot> out = new ArrayList<>();
        for (int k = 0; k < mine.count(i); k++) {
            out.add(new Model.Knot(Model.place(mine.knot(i, k, 0)), Model.place(mine.knot(i, k, 1)), mine.knot(i, k, 2) == 1));
        }
        return out;
    }

    private static LeastSums joined(String f, String g) {
        LeastSums mine = new LeastSums();
        read(mine, 0, f);
        read(mine, 1, g);
        must(mine.join(0, 1) == mine.count(6), "join");
        return mine;
    }

    /** PAPER, by as many objects as it takes to ask none more often than it serves. */
    private static List<Model.Knot> papered(String f, String g) {
        List<Model.Knot> out = new ArrayList<>();
        int many = joined(f, g).count(6);
        LeastSums mine = null;
        for (int k = 0; k < many; k++) {
            mine = k % KNOTS_OF_OBJECT == 0 ? joined(f, g) : mine;
            out.add(new Model.Knot(Fraction.of(mine.paper(k, 0), mine.paper(k, 1)),
                    Fraction.of(mine.paper(k, 2), mine.paper(k, 3)), mine.paper(k, 4) == 1));
        }
        return out;
    }

    private static void checkJoin(Random draw, int kind) {
        String one = text(draw, kind);
        String two = text(draw, draw.nextInt(5));
        LeastSums mine = joined(one, two);
        List<Model.Knot> f = stored(mine, 0);
        List<Model.Knot> g = stored(mine, 1);
        List<Model.Knot> paper = papered(one, two);
        TreeSet<Fraction> xs = Model.knotXs(List.of(paper));
        f.forEach(a -> g.forEach(b -> xs.add(a.x().plus(b.x()))));
        for (Fraction x : new ArrayList<>(xs)) {
            if (xs.higher(x) != null) {
                xs.add(x.plus(xs.higher(x)).by(Fraction.of(2, 1)));
            }
        }
        for (Fraction x : xs) {
            Fraction[] due = Model.leastSum(f, g, x);
            Fraction got = Model.valueAt(paper, x);
            must(due == null ? got == null : due[1].equals(got), "a join at " + x + " is " + got);
        }
        must(paper.equals(Model.told(x -> Model.valueAt(paper, x), Model.knotXs(List.of(paper)))), "knots that need not be");
    }

    /** All calls of a run live in one room: the dearest ones must not make rows anew. */
    private static void checkRoom(Random draw) {
        com.sun.management.ThreadMXBean meter = (com.sun.management.ThreadMXBean) ManagementFactory.getThreadMXBean();
        int[] numbers = new Random(5).ints(5 * 20 * 2).toArray();
        long id = Thread.currentThread().getId();
        String one = text(draw, 1);
        String two = text(draw, 3);
        LeastSums mine = new LeastSums();
        read(mine, 0, one);
        read(mine, 1, two);
        long before = meter.getThreadAllocatedBytes(id);
        LeastSums other = new LeastSums();
        for (int k = 0; k < 90; k++) {
            other.feed(numbers[k], numbers[k + 1], numbers[k + 2], numbers[k + 3], numbers[k + 4]);
            other.read(0);
            mine.join(0, 1);
            mine.image(k % 2);
            mine.under(0, 1);
            mine.undo();
            mine.split(0, 1, k, 0);
        }
        long used = meter.getThreadAllocatedBytes(id) - before;
        must(used < ROOM_BYTES, "some 600 calls made " + used + " bytes");
    }
}
