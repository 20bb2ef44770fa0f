import java.nio.ByteBuffer;
import java.nio.charset.StandardCharsets;
import java.util.ArrayList;
import java.util.Arrays;
import java.util.List;
import java.util.Random;

/** Runs of calls drawn from a fixed seed, each answer held against the model's. */
public final class RandomRunsTest {
    /** What an object answers behind its 512th call is free. */
    private static final int CALLS = 512;
    /** More than the dearest step asks for, with a look behind it. */
    private static final int CALLS_OF_STEP = 130;
    private static final int KNOTS_OF_LOOK = 12;

    private final Random draw;
    private final LeastSums mine = new LeastSums();
    private final Model model = new Model();
    private final List<String> told = new ArrayList<>();
    private final int reach;
    private int calls = 0;
    private boolean wrong = false;

    private RandomRunsTest(long seed) {
        draw = new Random(seed);
        reach = draw.nextInt(3) == 0 ? 99 : 1 + draw.nextInt(4);
    }

    public static void main(String[] args) {
        int runs = args.length > 0 ? Integer.parseInt(args[0]) : 2000;
        long seed = args.length > 1 ? Long.parseLong(args[1]) : 1;
        int bad = 0;
        for (int k = 0; k < runs && bad < 3; k++) {
            RandomRunsTest run = new RandomRunsTest(seed * 1_000_003 + k);
            run.go();
            bad += run.wrong ? 1 : 0;
        }
        System.out.println(bad == 0 ? "RandomRunsTest: " + runs + " runs as the model's" : "RandomRunsTest: wrong");
        if (bad != 0) {
            System.exit(1);
        }
    }

    private void go() {
        while (calls + CALLS_OF_STEP + callsOfLook() <= CALLS && !wrong) {
            step();
            if (!wrong && draw.nextInt(3) == 0) {
                lookAt(draw.nextInt(7));
            }
        }
        if (!wrong && calls + callsOfLook() <= CALLS) {
            lookAtAll();
        }
        if (calls > CALLS) {
            told.add("    an object was asked " + calls + " times");
            wrong = true;
        }
        if (wrong) {
            told.forEach(System.out::println);
        }
    }

    /** An act, which is told if the run goes wrong. */
    private void check(String call, long got, long due) {
        calls++;
        tell(call, got, due);
    }

    private void tell(String call, long got, long due) {
        told.add(call + " = " + got);
        if (got != due) {
            told.add("    due is " + due);
            wrong = true;
        }
    }

    /** A question, which is told only if its own answer is wrong. */
    private void quiet(String call, long got, long due) {
        calls++;
        if (got != due) {
            tell(call, got, due);
        }
    }

    private int callsOfLook() {
        return 3 * model.allKnots() + 5 * Math.min(model.count(6), KNOTS_OF_LOOK) + 20;
    }

    private void lookAtAll() {
        for (int slot = 0; slot < 7; slot++) {
            lookAt(slot);
        }
        for (int w = -1; w < 17; w++) {
            quiet("count " + w, mine.count(w), model.count(w));
        }
        quiet("status", mine.status(), model.status());
        quiet("fault", mine.fault(), model.fault());
    }

    private void lookAt(int slot) {
        if (slot == 6) {
            lookAtPaper();
            return;
        }
        for (int k = 0; k < model.count(slot); k++) {
            for (int w = 0; w < 3; w++) {
                quiet("knot " + slot + " " + k + " " + w, mine.knot(slot, k, w), model.knot(slot, k, w));
            }
        }
    }

    /** Of a PAPER with many KNOTS some that are neighbours. */
    private void lookAtPaper() {
        int many = model.count(6);
        int from = many <= KNOTS_OF_LOOK ? 0 : draw.nextInt(many - KNOTS_OF_LOOK + 1);
        for (int k = from; k < Math.min(many, from + KNOTS_OF_LOOK); k++) {
            for (int w = 0; w < 5; w++) {
                quiet("paper " + k + " " + w, mine.paper(k, w), model.paper(k, w));
            }
        }
    }

    // ---- what is drawn

    private int store() {
        return draw.nextInt(25) == 0 ? outside(5) : draw.nextInt(draw.nextBoolean() ? 3 : 6);
    }

    private int what(int most) {
        return draw.nextInt(20) == 0 ? outside(most) : draw.nextInt(most + 1);
    }

    private int outside(int most) {
        int[] all = {most + 1, -1, Integer.MIN_VALUE, Integer.MAX_VALUE};
        return all[draw.nextInt(all.length)];
    }

    private int place() {
        switch (draw.nextInt(30)) {
            case 0: return 5940;
            case 1: return -5940;
            case 2: return 5941;
            case 3: return -5941;
            case 4: return Integer.MIN_VALUE;
            case 5: return Integer.MAX_VALUE;
            default: return plainPlace();
        }
    }

    private int plainPlace() {
        int whole = 60 * (draw.nextInt(2 * reach + 1) - reach);
        switch (draw.nextInt(4)) {
            case 0: return clip(whole + draw.nextInt(61) - 30);
            case 1: return clip(whole + 30);
            default: return whole;
        }
    }

    private static int clip(int x) {
        return Math.max(-5940, Math.min(5940, x));
    }

    private String fraction(int place) {
        int bottom = 60;
        for (int k = 0; k < 3; k++) {
            int d = 1 + draw.nextInt(60);
            if (place * d % 60 == 0) {
                bottom = d;
                break;
            }
        }
        if (place % 60 == 0 && draw.nextInt(3) > 0) {
            bottom = 1;
        }
        int top = Math.abs(place) * bottom / 60;
        String minus = place < 0 ? "-" + blank(8) : place == 0 && draw.nextInt(6) == 0 ? "-" : "";
        String zeros = draw.nextInt(12) == 0 ? "00" : "";
        return minus + zeros + top + (bottom == 1 && draw.nextInt(9) > 0 ? "" : blank(8) + "/" + blank(8) + bottom);
    }

    private String blank(int seldom) {
        return draw.nextInt(seldom) == 0 ? " " : "";
    }

    private String goodText() {
        int n = draw.nextInt(12) == 0 ? 13 : 1 + draw.nextInt(draw.nextInt(4) == 0 ? 13 : 6);
        int[] xs = new int[n];
        for (int k = 0; k < n; k++) {
            xs[k] = plainPlace();
        }
        Arrays.sort(xs);
        StringBuilder text = new StringBuilder(blank(9));
        int y = plainPlace();
        for (int k = 0; k < n; k++) {
            boolean fresh = k > 0 && (xs[k] == xs[k - 1] || draw.nextInt(3) == 0);
            if (fresh) {
                text.append(blank(3)).append('|').append(blank(3));
            } else if (k > 0) {
                text.append(' ').append(blank(5));
            }
            y = draw.nextInt(4) == 0 ? y : plainPlace();
            text.append(fraction(xs[k])).append(blank(9)).append(',').append(blank(9)).append(fraction(y));
        }
        return text.append(blank(9)).toString();
    }

    private String text() {
        String good = goodText();
        if (draw.nextInt(3) > 0 || good.isEmpty()) {
            return good;
        }
        StringBuilder bad = new StringBuilder(good);
        String signs = "0123456789,,//||--  xE";
        for (int k = 0; k <= draw.nextInt(3); k++) {
            // the last KNOT is hit more often, since only there the count of KNOTS and other faults meet
            int at = draw.nextInt(bad.length());
            at = draw.nextInt(3) == 0 ? Math.max(at, bad.length() - 1 - draw.nextInt(9)) : at;
            char sign = draw.nextInt(15) == 0 ? (char) draw.nextInt(256) : signs.charAt(draw.nextInt(signs.length()));
            switch (draw.nextInt(3)) {
                case 0: bad.setCharAt(at, sign); break;
                case 1: bad.insert(at, sign); break;
                default: if (bad.length() > 1) { bad.deleteCharAt(at); }
            }
        }
        return bad.toString();
    }

    private void write(String text) {
        byte[] bytes = text.getBytes(StandardCharsets.ISO_8859_1);
        told.add("  text: \"" + text + "\"");
        for (int at = 0; at < bytes.length; at += 20) {
            ByteBuffer twenty = ByteBuffer.wrap(Arrays.copyOfRange(bytes, at, at + 20));
            int a = twenty.getInt();
            int b = twenty.getInt();
            int c = twenty.getInt();
            int d = twenty.getInt();
            int e = twenty.getInt();
            check("feed", mine.feed(a, b, c, d, e), model.feed(a, b, c, d, e));
        }
        int n = bytes.length + (draw.nextInt(40) == 0 ? 41 : 0);
        check("end " + n, mine.end(n), model.end(n));
    }

    private void step() {
        int i = store();
        int j = store();
        switch (draw.nextInt(36)) {
            case 0: case 1: case 2: case 3: case 4: case 5: case 6: {
                int stays = model.count(10);
                if (stays > 0) {
                    check("end 0", mine.end(0), model.end(0));
                }
                write(text());
                check("read " + i, mine.read(i), model.read(i));
                check("fault", mine.fault(), model.fault());
                break;
            }
            case 7: {
                int x = place();
                int y = place();
                check("dot " + i + " " + x + " " + y, mine.dot(i, x, y), model.dot(i, x, y));
                break;
            }
            case 8: {
                if (draw.nextInt(3) == 0) {
                    check("clear " + i, mine.clear(i), model.clear(i));
                }
                break;
            }
            case 9: check("sum " + i + " " + j, mine.sum(i, j), model.sum(i, j)); break;
            case 10: check("under " + i + " " + j, mine.under(i, j), model.under(i, j)); break;
            case 11: {
                if (model.count(i) * model.count(j) <= 30) {
                    check("join " + i + " " + j, mine.join(i, j), model.join(i, j));
                }
                break;
            }
            case 12: check("turn " + i, mine.turn(i), model.turn(i)); break;
            case 13: check("hull " + i, mine.hull(i), model.hull(i)); break;
            case 14: {
                int x = place();
                int z = draw.nextInt(5) == 0 ? x : place();
                check("cut " + i + " " + x + " " + z, mine.cut(i, x, z), model.cut(i, x, z));
                break;
            }
            case 15: {
                int x = place();
                int y = place();
                check("move " + i + " " + x + " " + y, mine.move(i, x, y), model.move(i, x, y));
                break;
            }
            case 16: {
                int by = draw.nextInt(4) == 0 ? draw.nextInt(64) - 2 : draw.nextInt(20) == 0 ? outside(60) : draw.nextInt(3);
                check("times " + i + " " + by, mine.times(i, by), model.times(i, by));
                break;
            }
            case 17: check("lay " + i, mine.lay(i), model.lay(i)); break;
            case 18: case 19: case 20: check("put " + i, mine.put(i), model.put(i)); break;
            case 21: {
                for (int k = draw.nextInt(draw.nextInt(5) == 0 ? 11 : 3); k >= 0; k--) {
                    check("undo", mine.undo(), model.undo());
                }
                break;
            }
            case 22: {
                int k = what(1);
                check("image " + k, mine.image(k), model.image(k));
                break;
            }
            case 23: {
                int k = what(1);
                if (draw.nextInt(3) == 0) {
                    check("back " + k, mine.back(k), model.back(k));
                }
                break;
            }
            default: ask(i, j);
        }
    }

    private void ask(int i, int j) {
        int x = place();
        int z = place();
        int k = draw.nextInt(9) == 0 ? outside(99) : draw.nextInt(7);
        for (int w : new int[] {draw.nextInt(5), what(5)}) {
            quiet("paper " + k + " " + w, mine.paper(k, w), model.paper(k, w));
            quiet("knot " + i + " " + k + " " + w, mine.knot(i, k, w), model.knot(i, k, w));
            quiet("value " + i + " " + x + " " + w, mine.value(i, x, w), model.value(i, x, w));
            quiet("limit " + i + " " + x + " " + w, mine.limit(i, x, w), model.limit(i, x, w));
            quiet("least " + i + " " + w, mine.least(i, w), model.least(i, w));
            quiet("slope " + i + " " + k + " " + w, mine.slope(i, k, w), model.slope(i, k, w));
            quiet("area " + i + " " + w, mine.area(i, w), model.area(i, w));
            quiet("where " + i + " " + z + " " + w, mine.where(i, z, w), model.where(i, z, w));
            quiet("split " + i + " " + j + " " + x + " " + w, mine.split(i, j, x, w), model.split(i, j, x, w));
        }
        for (int w : new int[] {draw.nextInt(10), what(10)}) {
            quiet("of " + i + " " + w, mine.of(i, w), model.of(i, w));
        }
        int w = what(16);
        quiet("count " + w, mine.count(w), model.count(w));
        quiet("bits " + i + " " + x, mine.bits(i, x), model.bits(i, x));
        quiet("places " + i + " " + x + " " + z, mine.places(i, x, z), model.places(i, x, z));
        quiet("compare " + i + " " + j, mine.compare(i, j), model.compare(i, j));
        quiet("status", mine.status(), model.status());
    }
}
