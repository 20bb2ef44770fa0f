import java.nio.ByteBuffer;
import java.nio.charset.StandardCharsets;
import java.util.Arrays;
import java.util.function.IntSupplier;

/** One new object, what is asked of it, and the answers that are due; a wrong one is printed and counted. */
class Bench {
    static final long NOTHING = Long.MIN_VALUE;
    static final int ABSENT = Integer.MIN_VALUE;
    static final int[] NO_STORES = {-1, 6, Integer.MIN_VALUE, Integer.MAX_VALUE};
    static final int[] NO_PLACES = {5941, -5941, Integer.MIN_VALUE, Integer.MAX_VALUE};
    private static int wrong = 0;

    final LeastSums x = new LeastSums();
    String name = "";

    /** Ends the program with 1 if an answer was not the one that is due. */
    static void tell(String test) {
        System.out.println(wrong == 0 ? test + ": all answers are as due" : test + ": " + wrong + " wrong");
        if (wrong != 0) {
            System.exit(1);
        }
    }

    final void wrongBy(String what) {
        wrong++;
        System.out.println(name + ": " + what);
    }

    final void due(String call, long got, long want) {
        if (got != want) {
            wrongBy(call + " answered " + got + ", due is " + want);
        }
    }

    final void dueText(String what, String got, String want) {
        if (!got.equals(want)) {
            wrongBy(what + " is \"" + got + "\", due is \"" + want + "\"");
        }
    }

    // ---- texts onto the TAPE and into STORE

    private static int[] words(byte[] bytes, int at) {
        ByteBuffer twenty = ByteBuffer.wrap(Arrays.copyOfRange(bytes, at, at + 20));
        return new int[] {twenty.getInt(), twenty.getInt(), twenty.getInt(), twenty.getInt(), twenty.getInt()};
    }

    final void write(String text) {
        x.end(0);
        byte[] bytes = text.getBytes(StandardCharsets.ISO_8859_1);
        for (int at = 0; at < bytes.length; at += 20) {
            int[] w = words(bytes, at);
            x.feed(w[0], w[1], w[2], w[3], w[4]);
        }
        due("end(" + bytes.length + ")", x.end(bytes.length), bytes.length);
    }

    final int text(int i, String text) {
        write(text);
        return x.read(i);
    }

    final void good(int i, String text, int knots) {
        due("read \"" + text + "\"", text(i, text), knots);
        due("fault of \"" + text + "\"", x.fault(), -1);
    }

    /** The text is read, and STORE 0 is told by as few KNOTS as the other text has. */
    final void reads(String text, String want) {
        if (text(0, text) < 0) {
            wrongBy("not read: \"" + text + "\"");
        }
        dueText("\"" + text + "\"", storeText(0), want);
    }

    /** The text is not read, and its FAULT is told; by a new object, since one serves for 512 calls alone. */
    final void bad(String text, int fault) {
        Bench fresh = new Bench();
        fresh.name = name;
        fresh.badHere(text, fault);
    }

    final void badHere(String text, int fault) {
        due("read \"" + text + "\"", text(5, text), -6);
        due("fault of \"" + text + "\"", x.fault(), fault);
        due("status of \"" + text + "\"", x.status(), -6);
        due("tape behind \"" + text + "\"", x.count(10), 0);
    }

    // ---- what stands

    private static String number(long upper, long lower) {
        return lower == 1 ? "" + upper : upper + "/" + lower;
    }

    private static String sixtieths(int place) {
        Fraction plain = Fraction.of(place, 60);
        return number(plain.upper().longValue(), plain.lower().longValue());
    }

    /** PAPER as a TEXT: parts by |, knots by a blank. */
    final String paperText() {
        StringBuilder all = new StringBuilder();
        for (int k = 0; k < x.count(6); k++) {
            if (k > 0) {
                all.append(x.paper(k - 1, 4) == 1 ? " " : "|");
            }
            all.append(number(x.paper(k, 0), x.paper(k, 1))).append(',').append(number(x.paper(k, 2), x.paper(k, 3)));
        }
        return all.toString();
    }

    final String storeText(int i) {
        StringBuilder all = new StringBuilder();
        for (int k = 0; k < x.count(i); k++) {
            if (k > 0) {
                all.append(x.knot(i, k - 1, 2) == 1 ? " " : "|");
            }
            all.append(sixtieths(x.knot(i, k, 0))).append(',').append(sixtieths(x.knot(i, k, 1)));
        }
        return all.toString();
    }

    final void paperIs(String want) {
        dueText("PAPER", paperText(), want);
    }

    final void storeIs(int i, String want) {
        dueText("STORE " + i, storeText(i), want);
    }

    /** All that a REFUSED call leaves as it was, but for what is undone and IMAGES, which no call tells. */
    final String state() {
        StringBuilder all = new StringBuilder();
        for (int i = 0; i < 6; i++) {
            all.append(storeText(i)).append('\n');
        }
        return all.append(paperText()).append('\n').append(x.count(9)).append(' ').append(x.count(10)).toString();
    }

    // ---- refused calls

    static int countOf(int by) {
        switch (by) {
            case -1: return 11;
            case -2: return 12;
            case -4: return 13;
            case -5: return 14;
            default: return 15;
        }
    }

    /** The call is REFUSED by that, and that is told by status() and count(). */
    final void refused(String call, int by, IntSupplier act) {
        int before = x.count(countOf(by));
        due(call, act.getAsInt(), by);
        due("status behind " + call, x.status(), by);
        due("count(" + countOf(by) + ") behind " + call, x.count(countOf(by)), before + 1);
    }
}
