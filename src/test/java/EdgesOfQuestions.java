import java.util.function.IntSupplier;
import java.util.function.IntToLongFunction;

/** Promises 21 to 35: what is told of PAPER, STORE and calls. */
final class EdgesOfQuestions extends Bench {
    private static final int[] FAR = {-1, 99, Integer.MIN_VALUE, Integer.MAX_VALUE};

    /** For each of the numbers the question is answered by that, and is no REFUSED call. */
    private void answersAll(String question, long answer, int[] numbers, IntToLongFunction ask) {
        x.turn(9);
        int told = x.count(12);
        for (int n : numbers) {
            due(question + " " + n, ask.applyAsLong(n), answer);
        }
        due("status() stays behind " + question, x.status(), -2);
        due("count(12) stays behind " + question, x.count(12), told);
    }

    // ---- paper, knot

    @Sentence(promise = 21, says = "Of PAPER's KNOT k (0 on):")
    void paperKnotsFromNoughtOn() {
        text(0, "3,0 4,1|5,5");
        x.lay(0);
        due("the first", x.paper(0, 0), 3);
        due("the last", x.paper(2, 0), 5);
    }

    @Sentence(promise = 21, says = {
        "x as a number (not sixtieths), its upper number (what 0), its lower one, above 0 (1), y likewise (2, 3), "
            + "in lowest terms;"})
    void paperTellsNumbers() {
        text(0, "0,1 4,0|5,-1/2");
        text(1, "0,0 3,1");
        x.under(0, 1);
        long[][] want = {{0, 1, 0, 1}, {12, 7, 4, 7}, {4, 1, 0, 1}, {5, 1, -1, 2}};
        for (int k = 0; k < want.length; k++) {
            for (int what = 0; what < 4; what++) {
                due("paper(" + k + ", " + what + ")", x.paper(k, what), want[k][what]);
            }
        }
        x.move(0, -70, -75);
        due("x below 0", x.paper(0, 0), -7);
        due("its lower number", x.paper(0, 1), 6);
        due("y below 0", x.paper(0, 2), -1);
        due("its lower number", x.paper(0, 3), 4);
    }

    @Sentence(promise = 21, says = "1 if a line goes from it to the next one, else 0 (4).")
    void paperTellsLines() {
        text(0, "0,0 1,1 2,0|2,-1|3,3 4,4");
        x.lay(0);
        int[] lines = {1, 1, 0, 0, 1, 0};
        for (int k = 0; k < lines.length; k++) {
            due("paper(" + k + ", 4)", x.paper(k, 4), lines[k]);
        }
    }

    @Sentence(promise = 21, says = "NOTHING for others.")
    void paperHasNoOthers() {
        answersAll("paper of NOTHING", NOTHING, new int[] {0, 1, -1}, k -> x.paper(k, 0));
        text(0, "0,0 1,1");
        x.lay(0);
        for (int what = 0; what < 5; what++) {
            int w = what;
            answersAll("paper's KNOT", NOTHING, new int[] {2, -1, Integer.MIN_VALUE, Integer.MAX_VALUE}, k -> x.paper(k, w));
        }
        answersAll("paper's what", NOTHING, new int[] {5, -1, Integer.MIN_VALUE, Integer.MAX_VALUE}, w -> x.paper(0, w));
    }

    @Sentence(promise = 22, says = {
        "Of STORE i KNOT k:", "x, y as sixtieths (what 0, 1), 1 if a line goes on from it, else 0 (2)."})
    void knotTellsSixtieths() {
        text(5, "-1/60,1/2 1,2|3,-99");
        int[][] want = {{-1, 30, 1}, {60, 120, 0}, {180, -5940, 0}};
        for (int k = 0; k < want.length; k++) {
            for (int what = 0; what < 3; what++) {
                due("knot(5, " + k + ", " + what + ")", x.knot(5, k, what), want[k][what]);
            }
        }
    }

    @Sentence(promise = 22, says = "Integer.MIN_VALUE for others.")
    void knotHasNoOthers() {
        text(0, "0,0 1,1");
        answersAll("knot's what", ABSENT, new int[] {3, -1, 4, Integer.MIN_VALUE, Integer.MAX_VALUE}, w -> x.knot(0, 0, w));
        answersAll("knot's KNOT", ABSENT, new int[] {2, -1, Integer.MIN_VALUE, Integer.MAX_VALUE}, k -> x.knot(0, k, 0));
        answersAll("knot's STORE", ABSENT, NO_STORES, i -> x.knot(i, 0, 0));
        due("of NOTHING", x.knot(1, 0, 0), ABSENT);
    }

    // ---- value, bits, limit

    @Sentence(promise = 23, says = {
        "VALUE of STORE i at a PLACE x as a number:", "the upper number (what 0), the lower one (1), in lowest terms."})
    void valueAsANumber() {
        text(5, "-99,-99 -1,1 99,99|99,98");
        due("at the least PLACE", x.value(5, -5940, 0), -99);
        due("at a jump at the greatest PLACE", x.value(5, 5940, 0), 98);
        due("on a line", x.value(5, -120, 0), -1);
        due("on a line", x.value(5, -120, 1), 49);
        due("at a KNOT", x.value(5, -60, 0), 1);
        due("at a KNOT", x.value(5, -60, 1), 1);
        text(0, "0,0 1,1/2");
        due("lowest terms", x.value(0, 20, 0), 1);
        due("lowest terms", x.value(0, 20, 1), 6);
    }

    @Sentence(promise = 23, says = "NOTHING (none; others).")
    void noValue() {
        text(0, "-99,0 1,1|2,2 99,0");
        answersAll("value in a gap", NOTHING, new int[] {61, 119}, p -> x.value(0, p, 0));
        answersAll("value's PLACE", NOTHING, NO_PLACES, p -> x.value(0, p, 0));
        answersAll("value's STORE", NOTHING, NO_STORES, i -> x.value(i, 0, 0));
        answersAll("value's what", NOTHING, new int[] {-1, 2, Integer.MIN_VALUE, Integer.MAX_VALUE}, w -> x.value(0, 0, w));
        due("of NOTHING", x.value(1, 0, 1), NOTHING);
    }

    private void bitsAt(int place) {
        float upper = (float) x.value(0, place, 0);
        float lower = (float) x.value(0, place, 1);
        due("bits(0, " + place + ")", x.bits(0, place), Float.floatToIntBits(upper / lower));
    }

    @Sentence(promise = 24, says = "BITS (Float.floatToIntBits) of that: the upper number as a float by the lower one as a float.")
    void bitsOfTheFloat() {
        text(0, "0,0 3,-1|5,99 6,-99|10,-1/60|11,1/60 12,2 13,0|14,1 15,0 99,0");
        due("0", x.bits(0, 0), 0);
        due("-1/3", x.bits(0, 60), 0xBEAAAAAB);
        due("99", x.bits(0, 300), 0x42C60000);
        due("-99", x.bits(0, 360), 0xC2C60000);
        due("1", x.bits(0, 840), 0x3F800000);
        due("2", x.bits(0, 720), 0x40000000);
        for (int place = 300; place <= 360; place++) {
            bitsAt(place);
        }
        for (int place = 660; place <= 780; place += 3) {
            bitsAt(place);
        }
    }

    /** Both numbers beyond 24 bits: each is made a float on its own, then divided. */
    @Sentence(promise = 24, says = "the upper number as a float by the lower one as a float.")
    void bitsOfNumbersThatAreNoFloats() {
        text(0, "-99,-5939/60 5939/60,5939/60");
        for (int place = 5900; place < 5939; place++) {
            bitsAt(place);
        }
        text(0, "-99,0 99,1/60");
        due("the least above 0", x.bits(0, -5939), Float.floatToIntBits(1f / 712800f));
    }

    @Sentence(promise = 24, says = "0 for others.")
    void noBits() {
        text(0, "-99,1 1,1|2,2 99,1");
        answersAll("bits in a gap", 0, new int[] {61, 119}, p -> x.bits(0, p));
        answersAll("bits of no PLACE", 0, NO_PLACES, p -> x.bits(0, p));
        answersAll("bits of no STORE", 0, NO_STORES, i -> x.bits(i, 0));
        due("of NOTHING", x.bits(1, 0), 0);
    }

    private void limits(int place, long left, long right) {
        due("from the left at " + place, x.limit(0, place, 0), left);
        due("to the right at " + place, x.limit(0, place, 2), right);
    }

    @Sentence(promise = 25, says = {
        "How i comes to a PLACE x: what is there as the end of what comes from the left (what 0, 1: numbers as in value()), "
            + "as the begin of what goes on to the right (2, 3)."})
    void limitOfBothSides() {
        text(0, "0,0 3,-1 4,5|4,-2|4,7 5,8|5,9 6,9");
        limits(180, -1, -1);
        limits(240, 5, 7);
        limits(300, 8, 9);
        due("inside a line", x.limit(0, 60, 0), -1);
        due("inside a line", x.limit(0, 60, 1), 3);
        due("inside a line", x.limit(0, 60, 2), -1);
        due("inside a line", x.limit(0, 60, 3), 3);
    }

    @Sentence(promise = 25, says = "NOTHING (nothing does;")
    void limitWhereNothingComesOrGoes() {
        text(0, "0,0 3,-1|5,5 6,6");
        limits(0, NOTHING, 0);
        limits(180, -1, NOTHING);
        limits(181, NOTHING, NOTHING);
        limits(300, NOTHING, 5);
        limits(360, 6, NOTHING);
        due("lower numbers", x.limit(0, 0, 1), NOTHING);
        due("lower numbers", x.limit(0, 180, 3), NOTHING);
        limits(-1, NOTHING, NOTHING);
        limits(361, NOTHING, NOTHING);
    }

    @Sentence(promise = 25, says = "a KNOT on its own does not;")
    void limitOfALoneKnot() {
        text(0, "0,0|1,1 2,2|2,-1|5,5");
        limits(0, NOTHING, NOTHING);
        limits(120, 2, NOTHING);
        limits(300, NOTHING, NOTHING);
        due("lower number", x.limit(0, 0, 1), NOTHING);
        due("lower number", x.limit(0, 0, 3), NOTHING);
    }

    @Sentence(promise = 25, says = "others).")
    void noLimit() {
        text(0, "-99,1 99,1");
        for (int what = 0; what < 4; what++) {
            int w = what;
            answersAll("limit at no PLACE", NOTHING, NO_PLACES, p -> x.limit(0, p, w));
            answersAll("limit of no STORE", NOTHING, NO_STORES, i -> x.limit(i, 0, w));
        }
        answersAll("limit's what", NOTHING, new int[] {-1, 4, Integer.MIN_VALUE, Integer.MAX_VALUE}, w -> x.limit(0, 0, w));
    }

    // ---- of, least, slope, area

    private void ofAll(String text, int... due) {
        if (text.isEmpty()) {
            x.clear(0);
        } else {
            text(0, text);
        }
        for (int what = 0; what < due.length; what++) {
            due("of(0, " + what + ") of \"" + text + "\"", x.of(0, what), due[what]);
        }
    }

    @Sentence(promise = 26, says = "Of STORE i: KNOTS (what 0), PARTS (1), lines (2),")
    void ofTellsKnotsPartsLines() {
        ofAll("1,1/2", 1, 1, 0);
        ofAll("0,0 1,1", 2, 1, 1);
        ofAll("0,0 1,2 2,3|2,9 3,9|5,5", 6, 3, 3);
        ofAll("0,0|1,0|2,0", 3, 3, 0);
        ofAll("", 0, 0, 0);
    }

    @Sentence(promise = 26, says = "jumps: how often a PART begins where the one ahead ends (3),")
    void ofTellsJumps() {
        text(0, "0,0 1,2|1,1|1,3 2,3|2,5 3,3|4,4 5,4");
        due("jumps", x.of(0, 3), 3);
        text(0, "0,0 1,1|61/60,1 2,1");
        due("a gap is no jump", x.of(0, 3), 0);
        text(0, "0,0 1,1 2,0");
        due("a turn is no jump", x.of(0, 3), 0);
        text(0, "0,0|0,1 1,1");
        due("from a lone KNOT", x.of(0, 3), 1);
    }

    @Sentence(promise = 26, says = "1 if CONVEX, else 0 (4),")
    void ofTellsConvex() {
        ofAll("0,5 1,0 2,0 3,1", 4, 1, 3, 0, 1);
        ofAll("0,0 1,2 2,3", 3, 1, 2, 0, 0);
        ofAll("0,0 1,0|2,0 3,1", 4, 2, 2, 0, 0);
        ofAll("1,1", 1, 1, 0, 0, 1);
        ofAll("", 0, 0, 0, 0, 0);
    }

    @Sentence(promise = 26, says = "the least x, the greatest x as sixtieths (5, 6),")
    void ofTellsTheEndsOfX() {
        text(0, "-3/2,1 0,0|99,5");
        due("least x", x.of(0, 5), -90);
        due("greatest x", x.of(0, 6), 5940);
        x.dot(0, 7, 0);
        due("least x", x.of(0, 5), 7);
        due("greatest x", x.of(0, 6), 7);
    }

    @Sentence(promise = 26, says = "sixtieths of x under its lines, together (7),")
    void ofTellsSixtiethsUnderLines() {
        text(0, "0,0 1,1 2,0|2,5 5/2,5|9,9|10,0 11,0");
        due("sixtieths", x.of(0, 7), 210);
        x.dot(0, 7, 0);
        due("of a lone KNOT", x.of(0, 7), 0);
        text(0, "-99,0 99,1");
        due("of all", x.of(0, 7), 11880);
    }

    @Sentence(promise = 26, says = "1 if it can be TURNED, else 0 (8),")
    void ofTellsWhetherItCanBeTurned() {
        String[] texts = {"0,0 1,1|2,2", "0,5 1,2|2,1", "7,7", "0,0 1,0", "0,0 1,1|1,2 2,3", "0,0 1,1|2,1", "0,0 1,1 2,0"};
        int[] can = {1, 1, 1, 0, 0, 0, 0};
        for (int k = 0; k < texts.length; k++) {
            text(0, texts[k]);
            due("of(0, 8) of " + texts[k], x.of(0, 8), can[k]);
            due("as turn() does", x.turn(0), can[k] == 1 ? x.of(0, 0) : -4);
        }
        due("of NOTHING", x.of(5, 8), 1);
        due("as turn() does", x.turn(5), 0);
    }

    @Sentence(promise = 26, says = "how many times SLOPES fall from one line to the next one (9).")
    void ofTellsHowOftenSlopesFall() {
        text(0, "0,0 1,1 2,1 3,2|4,2 5,2|6,6|7,0 8,1 9,2|10,0 11,-1");
        due("within PARTS and across them", x.of(0, 9), 3);
        text(0, "0,0 1,1|2,0 3,1");
        due("alike", x.of(0, 9), 0);
        text(0, "0,0 1/60,99 1/30,5939/60");
        due("steep ones", x.of(0, 9), 1);
        x.dot(0, 0, 0);
        due("of no lines", x.of(0, 9), 0);
    }

    @Sentence(promise = 26, says = "Integer.MIN_VALUE for others (5, 6 of NOTHING, too).")
    void ofHasNoOthers() {
        ofAll("", 0, 0, 0, 0, 0, ABSENT, ABSENT, 0, 1, 0, ABSENT);
        answersAll("of's what", ABSENT, new int[] {-1, 10, Integer.MIN_VALUE, Integer.MAX_VALUE}, w -> x.of(0, w));
        answersAll("of no STORE", ABSENT, NO_STORES, i -> x.of(i, 0));
        answersAll("of no STORE", ABSENT, NO_STORES, i -> x.of(i, 5));
    }

    @Sentence(promise = 27, says = {
        "The least VALUE of i as sixtieths (what 0), the least x with it (1), the greatest (2), the greatest y of a KNOT (3)."})
    void leastTellsWhatIsLeast() {
        text(5, "-3,5 -2,-1/2 -1,-1/2|0,7|1,-1/2 2,6|2,-1/2|3,0");
        int[] want = {-30, -120, 120, 420};
        for (int what = 0; what < 4; what++) {
            due("least(5, " + what + ")", x.least(5, what), want[what]);
        }
        text(0, "0,-1|0,9 1,9|1,-1");
        due("the greatest y is of a KNOT that VALUE hides", x.least(0, 3), 540);
        due("the greatest x", x.least(0, 2), 60);
        text(0, "0,0 1,-1 2,3");
        due("the second KNOT is the least", x.least(0, 1), 60);
        due("the second KNOT is the least", x.least(0, 2), 60);
        text(0, "0,0 1,4 2,3");
        due("the second KNOT is the greatest", x.least(0, 3), 240);
        x.dot(0, -7, -9);
        due("of a lone KNOT", x.least(0, 0), -9);
        due("of a lone KNOT", x.least(0, 1), -7);
        due("of a lone KNOT", x.least(0, 2), -7);
        due("of a lone KNOT", x.least(0, 3), -9);
    }

    @Sentence(promise = 27, says = "Integer.MIN_VALUE of NOTHING, for others.")
    void leastHasNoOthers() {
        for (int what = -1; what < 5; what++) {
            due("least(0, " + what + ") of NOTHING", x.least(0, what), ABSENT);
        }
        text(0, "0,0 1,1");
        answersAll("least's what", ABSENT, new int[] {-1, 4, Integer.MIN_VALUE, Integer.MAX_VALUE}, w -> x.least(0, w));
        answersAll("least of no STORE", ABSENT, NO_STORES, i -> x.least(i, 0));
    }

    @Sentence(promise = 28, says = {"SLOPE of line k (0 on) of i:", "the upper number (what 0), the lower one (1)."})
    void slopeOfEachLine() {
        text(5, "0,0 3,-1|4,4|5,5 6,5 7,105/60|8,-99 481/60,99");
        long[][] want = {{-1, 3}, {0, 1}, {-13, 4}, {11880, 1}};
        for (int k = 0; k < want.length; k++) {
            due("slope(5, " + k + ", 0)", x.slope(5, k, 0), want[k][0]);
            due("slope(5, " + k + ", 1)", x.slope(5, k, 1), want[k][1]);
        }
    }

    @Sentence(promise = 28, says = "NOTHING for others.")
    void slopeHasNoOthers() {
        text(0, "0,0 1,1|2,2|3,3 4,3");
        answersAll("slope's line", NOTHING, new int[] {2, -1, 3, Integer.MIN_VALUE, Integer.MAX_VALUE}, k -> x.slope(0, k, 0));
        answersAll("slope's what", NOTHING, new int[] {2, -1, Integer.MIN_VALUE, Integer.MAX_VALUE}, w -> x.slope(0, 0, w));
        answersAll("slope of no STORE", NOTHING, NO_STORES, i -> x.slope(i, 0, 0));
        due("of NOTHING", x.slope(1, 0, 0), NOTHING);
        x.dot(0, 0, 0);
        due("of a lone KNOT", x.slope(0, 0, 0), NOTHING);
    }

    private void area(String text, long upper, long lower) {
        text(5, text);
        due("area, upper, of " + text, x.area(5, 0), upper);
        due("area, lower, of " + text, x.area(5, 1), lower);
    }

    @Sentence(promise = 29, says = {"AREA of i:", "the upper number (what 0), the lower one (1)."})
    void areaOfAllLines() {
        area("0,0 1,1|1,5|2,-1 5,-1|6,0 7,1/60", -299, 120);
        area("0,0 1/60,1/60", 1, 7200);
        area("0,0 1/60,-1/60", -1, 7200);
        area("-99,99 99,99", 19602, 1);
        area("-99,-99 99,-99", -19602, 1);
        area("-1,-1 1,1", 0, 1);
    }

    @Sentence(promise = 29, says = "(0 by 1 without lines)")
    void areaWithoutLines() {
        area("7,7|8,-8", 0, 1);
        due("of NOTHING", x.area(1, 0), 0);
        due("of NOTHING", x.area(1, 1), 1);
    }

    @Sentence(promise = 29, says = "NOTHING for others (0 by 1 without lines).")
    void areaHasNoOthers() {
        text(0, "0,0 1,1");
        answersAll("area's what", NOTHING, new int[] {2, -1, Integer.MIN_VALUE, Integer.MAX_VALUE}, w -> x.area(0, w));
        answersAll("area of no STORE", NOTHING, NO_STORES, i -> x.area(i, 0));
    }

    // ---- where, places

    private void where(String text, int y, long upper, long lower) {
        text(5, text);
        due("where(5, " + y + ", 0) of " + text, x.where(5, y, 0), upper);
        due("where(5, " + y + ", 1) of " + text, x.where(5, y, 1), lower);
    }

    @Sentence(promise = 30, says = "The first x of a KNOT,")
    void whereAtAKnot() {
        where("0,0 1,1|2,2 3,2", 120, 2, 1);
        where("0,0 1,1|2,2|3,3", 180, 3, 1);
        where("0,0 1,1 2,0", 0, 0, 1);
        where("-5,3", 180, -5, 1);
    }

    @Sentence(promise = 30, says = {
        "or at which a line that is not level comes to it,", "the upper number (what 0), the lower one (1)."})
    void whereALineComesToIt() {
        where("0,0 3,1 4,-5", 20, 1, 1);
        where("0,0 7,3", 60, 7, 3);
        where("0,3 3,-3", -20, 5, 3);
        where("-7,3 0,0", 60, -7, 3);
        where("0,0 1,0|2,-1 4,1", 0, 0, 1);
        where("2,-1 4,1|5,0", 0, 3, 1);
    }

    /** A level line is at y all along: its KNOTS alone tell where. */
    @Sentence(promise = 30, says = "a line that is not level")
    void whereALevelLineIsHiddenAtItsBegin() {
        where("0,-1|0,1 2,1", 60, 2, 1);
        where("0,-1|0,1 2,1|2,0", 60, NOTHING, NOTHING);
        where("0,-1|0,1 2,1|2,0|3,1", 60, 3, 1);
        where("0,1 2,1", 60, 0, 1);
    }

    @Sentence(promise = 30, says = "where VALUE of i is a PLACE y:")
    void whereTheValueIsNotJustAnEnd() {
        where("0,0 1,2|1,1", 120, NOTHING, NOTHING);
        where("0,0 1,2|1,1", 60, 1, 2);
        where("1,1|1,2 2,3", 120, NOTHING, NOTHING);
        where("0,0 1,2|1,1|1,2 2,2", 120, 2, 1);
        where("0,-99 1,99", -5940, 0, 1);
        where("0,-99 1,99", 5940, 1, 1);
    }

    @Sentence(promise = 30, says = "NOTHING (nowhere; others).")
    void whereHasNoOthers() {
        text(0, "0,0 1,1|2,3 3,4");
        answersAll("where, nowhere", NOTHING, new int[] {-1, 61, 179, 241, 5940, -5940}, y -> x.where(0, y, 0));
        answersAll("where, no PLACE", NOTHING, NO_PLACES, y -> x.where(0, y, 0));
        answersAll("where's what", NOTHING, new int[] {2, -1, Integer.MIN_VALUE, Integer.MAX_VALUE}, w -> x.where(0, 0, w));
        answersAll("where, no STORE", NOTHING, NO_STORES, i -> x.where(i, 0, 0));
        due("in NOTHING", x.where(1, 0, 1), NOTHING);
    }

    @Sentence(promise = 31, says = "At how many PLACES from x to z (PLACES, x not behind z) i has a VALUE.")
    void placesWithAValue() {
        text(5, "0,0 1,1|1,2 2,2 3,0|4,4|5,5");
        due("all", x.places(5, -5940, 5940), 183);
        due("both ends count", x.places(5, 60, 62), 3);
        due("one", x.places(5, 60, 60), 1);
        due("a gap", x.places(5, 181, 239), 0);
        due("with a lone KNOT", x.places(5, 181, 240), 1);
        due("ahead of all", x.places(5, -5940, -1), 0);
        due("behind all", x.places(5, 301, 5940), 0);
        due("of NOTHING", x.places(0, -5940, 5940), 0);
        text(0, "-99,0 99,0");
        due("of all PLACES", x.places(0, -5940, 5940), 11881);
    }

    @Sentence(promise = 31, says = {"(PLACES, x not behind z)", "NONE for others."})
    void placesHasNoOthers() {
        text(0, "-99,0 99,0");
        answersAll("places, x behind z", -1, new int[] {1, 5940}, p -> x.places(0, p, 0));
        due("x at z", x.places(0, 0, 0), 1);
        answersAll("places, x no PLACE", -1, NO_PLACES, p -> x.places(0, p, 5940));
        answersAll("places, z no PLACE", -1, NO_PLACES, p -> x.places(0, -5940, p));
        answersAll("places, no STORE", -1, NO_STORES, i -> x.places(i, 0, 0));
    }

    // ---- split, compare

    private void splits(int place, long... want) {
        for (int what = 0; what < 4; what++) {
            due("split(0, 1, " + place + ", " + what + ")", x.split(0, 1, place, what), want[what]);
        }
    }

    @Sentence(promise = 32, says = {
        "JOINED of i and j at a PLACE x, without PAPER:",
        "the VALUE's upper number, lower one (what 0, 1), the least u by which it is that, likewise (2, 3)."})
    void splitTellsTheLeastSum() {
        text(0, "0,0 2,0");
        text(1, "0,0 7,3");
        splits(0, 0, 1, 0, 1);
        splits(180, 3, 7, 2, 1);
        splits(30, 0, 1, 1, 2);
        splits(540, 3, 1, 2, 1);
        due("nothing came onto PAPER", x.count(6), 0);
        due("and nothing can be undone of it", x.count(9), 2);
        text(0, "-99,0|5,9|99,0");
        text(1, "-99,-1/2|0,0|99,7");
        splits(0, -1, 2, 99, 1);
        splits(5940, 0, 1, 99, 1);
        splits(-5940, 0, 1, -99, 1);
    }

    @Sentence(promise = 32, says = "the least u by which it is that")
    void splitTellsTheLeastOfLikeOnes() {
        text(0, "0,0 2,0");
        text(1, "0,0 2,0");
        splits(180, 0, 1, 1, 1);
        splits(60, 0, 1, 0, 1);
        text(0, "0,1 1,0|3,0 4,1");
        text(1, "-5,0 5,0");
        splits(120, 0, 1, 1, 1);
        text(0, "0,0|1,0|2,0");
        text(1, "0,0|1,0|2,0");
        splits(120, 0, 1, 0, 1);
        text(1, "0,0|1,0|2,1/60");
        splits(120, 0, 1, 1, 1);
    }

    @Sentence(promise = 32, says = "NOTHING (none; others).")
    void noSplit() {
        text(0, "0,0 1,1");
        text(1, "0,0 2,0");
        for (int what = 0; what < 4; what++) {
            int w = what;
            answersAll("split, no x", NOTHING, new int[] {-1, 181, 5940, -5940}, p -> x.split(0, 1, p, w));
            answersAll("split, no PLACE", NOTHING, NO_PLACES, p -> x.split(0, 1, p, w));
            answersAll("split, no STORE", NOTHING, NO_STORES, i -> x.split(i, 1, 0, w));
            answersAll("split, no STORE", NOTHING, NO_STORES, j -> x.split(0, j, 0, w));
        }
        answersAll("split's what", NOTHING, new int[] {4, -1, Integer.MIN_VALUE, Integer.MAX_VALUE}, w -> x.split(0, 1, 0, w));
        due("with NOTHING", x.split(0, 2, 0, 0), NOTHING);
        due("with NOTHING", x.split(2, 0, 0, 2), NOTHING);
        text(0, "-99,0 99,0");
        due("JOINED goes beyond, x does not", x.split(0, 0, 5941, 0), NOTHING);
    }

    private void compares(String f, String g, int want) {
        text(0, f);
        text(1, g);
        due("compare \"" + f + "\" with \"" + g + "\"", x.compare(0, 1), want);
        due("the other way", x.compare(1, 0), want == 1 || want == -1 ? -want : want);
    }

    @Sentence(promise = 33, says = "How i and j lie over all x of both DOMAINS:")
    void compareOverBothDomains() {
        compares("0,0 4,4", "2,2 6,6", 0);
        compares("0,-9 1,-9|2,5 3,5", "2,4 3,4|5,99", 1);
        compares("0,0|2,0|4,0", "0,0 1,9 2,0 3,-9 4,0", 0);
        compares("0,0 1,0", "1,1 2,-5", -1);
    }

    @Sentence(promise = 33, says = "1 i never lower and not all alike, -1 j likewise,")
    void compareOneNeverLower() {
        compares("0,0 4,4", "0,0 4,5", -1);
        compares("0,0 4,4", "0,1/60 4,4", -1);
        compares("0,0 1,0|1,-1|1,0 2,0", "0,0 2,0", -1);
        compares("0,0 2,2|2,-1", "2,0", -1);
        compares("0,1 2,1|2,0", "0,0 2,0", 1);
        compares("0,0 2,0|2,1 4,1", "0,0 2,0|2,0 4,1/60", 1);
        compares("0,0 1,5 2,0", "0,0 2,0", 1);
    }

    /** Beside a KNOT one may be lower though both are alike at it, and where the next KNOT is. */
    @Sentence(promise = 33, says = "over all x of both DOMAINS:")
    void compareBesideKnots() {
        compares("0,0|0,1 1,1", "0,0|0,2 1,1", -1);
        compares("0,1 1,1|1,0", "0,1 1,2|1,0", -1);
        compares("0,0|0,1 1,1 2,2|2,0", "0,0|0,2 1,1 2,1|2,0", 2);
    }

    @Sentence(promise = 33, says = "0 alike at all,")
    void compareAlike() {
        compares("0,0 1,1|5,5", "0,0 1,1|5,5", 0);
        compares("0,0 1,0", "1,0 2,5", 0);
        compares("0,0 4,4", "2,2", 0);
        due("with itself", x.compare(0, 0), 0);
    }

    @Sentence(promise = 33, says = "2 each lower somewhere,")
    void compareEachLower() {
        compares("0,0 4,4", "0,4 4,0", 2);
        compares("0,0|1,1", "0,1|1,0", 2);
        compares("0,0 1,0|1,-1|1,0 2,0", "0,-1/60 2,-1/60", 2);
        compares("0,0 1,1 2,0", "0,0 1,-1 2,1/60", 2);
    }

    @Sentence(promise = 33, says = "3 no x in common.")
    void compareNothingInCommon() {
        compares("0,0 1,0", "61/60,0 3,0", 3);
        compares("0,0|2,0", "1,0|3,0", 3);
        due("alike ahead", x.compare(0, 0), 0);
        due("nothing in common behind it", x.compare(0, 1), 3);
        due("with NOTHING", x.compare(0, 4), 3);
        due("NOTHING with NOTHING", x.compare(4, 4), 3);
    }

    @Sentence(promise = 33, says = "-2 for others.")
    void compareHasNoOthers() {
        text(0, "0,0");
        answersAll("compare, no STORE", -2, NO_STORES, i -> x.compare(i, 0));
        answersAll("compare, no STORE", -2, NO_STORES, j -> x.compare(0, j));
    }

    // ---- count, status

    @Sentence(promise = 34, says = {
        "0 .. 5 KNOTS of STORE, 6 of PAPER, 7 PARTS of PAPER,", "9 how many can be undone, 10 bytes of the TAPE,"})
    void countOfWhatStands() {
        for (int i = 0; i < 6; i++) {
            text(i, "0,0|1,0|2,0|3,0|4,0|5,0".substring(0, 4 * i + 3));
        }
        for (int i = 0; i < 6; i++) {
            due("count(" + i + ")", x.count(i), i + 1);
        }
        text(0, "0,0 1,1|5,5");
        x.lay(0);
        due("KNOTS of PAPER", x.count(6), 3);
        due("PARTS of PAPER", x.count(7), 2);
        due("can be undone", x.count(9), 8);
        x.undo();
        due("can be undone", x.count(9), 7);
        write("1234567");
        due("bytes", x.count(10), 7);
        x.read(0);
        due("bytes", x.count(10), 0);
    }

    @Sentence(promise = 34, says = "8 1 if PAPER can be put(), else 0,")
    void countTellsWhetherPaperCanBePut() {
        due("NOTHING", x.count(8), 1);
        text(0, "-99,-99 99,99");
        x.lay(0);
        due("at the bounds", x.count(8), 1);
        x.move(0, 1, 0);
        due("x beyond", x.count(8), 0);
        x.move(0, 0, -1);
        due("y beyond", x.count(8), 0);
        text(0, "0,0 7,1");
        x.cut(0, 0, 1);
        due("a fraction", x.count(8), 0);
        text(0, "0,0|1,0|2,0|3,0|4,0|5,0|6,0|7,0|8,0|9,0|10,0|11,0");
        x.lay(0);
        due("12 KNOTS", x.count(8), 1);
        x.dot(1, 720, 0);
        x.under(0, 1);
        due("13 KNOTS", x.count(8), 0);
        x.undo();
        due("12 again", x.count(8), 1);
    }

    @Sentence(promise = 34, says = "11 .. 15 how many calls were REFUSED by -1, -2, -4, -5, -6.")
    void countOfRefusedCalls() {
        text(0, "0,0 7,1");
        x.cut(0, 1, 2);
        int[] whats = {11, 12, 13, 14, 15};
        for (int what : whats) {
            due("none yet: " + what, x.count(what), 0);
        }
        refused("-1", -1, () -> x.dot(0, 5941, 0));
        refused("-1", -1, () -> x.times(6, 99));
        refused("-2", -2, () -> x.clear(6));
        refused("-5", -5, () -> x.put(0));
        refused("-5", -5, () -> x.put(0));
        refused("-5", -5, () -> x.put(5));
        x.undo();
        x.undo();
        refused("-4", -4, () -> x.undo());
        refused("-6", -6, () -> x.read(0));
        int[] want = {2, 1, 1, 3, 1};
        for (int k = 0; k < whats.length; k++) {
            due("count(" + whats[k] + ")", x.count(whats[k]), want[k]);
        }
    }

    @Sentence(promise = 34, says = "NONE for others.")
    void countHasNoOthers() {
        answersAll("count", -1, new int[] {-1, 16, Integer.MIN_VALUE, Integer.MAX_VALUE}, w -> x.count(w));
    }

    @Sentence(promise = 35, says = {
        "What the latest call of read, dot, clear, sum, under, join, turn, hull, cut, move, times, lay, put, undo, image, back "
            + "was REFUSED by;"})
    void statusOfEachCall() {
        IntSupplier[] refused = {() -> x.read(6), () -> x.dot(6, 0, 0), () -> x.clear(6), () -> x.sum(6, 0), () -> x.under(6, 0),
            () -> x.join(6, 0), () -> x.turn(6), () -> x.hull(6), () -> x.cut(6, 0, 0), () -> x.move(6, 0, 0),
            () -> x.times(6, 0), () -> x.lay(6), () -> x.put(6), () -> x.back(0)};
        for (int k = 0; k < refused.length; k++) {
            x.image(1);
            due("status", x.status(), 0);
            due("call " + k, refused[k].getAsInt(), -2);
            due("status of call " + k, x.status(), -2);
        }
        due("undo", x.undo(), -4);
        due("status of undo", x.status(), -4);
        due("image", x.image(2), -1);
        due("status of image", x.status(), -1);
        due("read", x.read(0), -6);
        due("status of read", x.status(), -6);
    }

    @Sentence(promise = 35, says = "0 if it was not, or ahead of any.")
    void statusOfCallsThatWereNotRefused() {
        due("ahead of any", x.status(), 0);
        IntSupplier[] good = {() -> text(0, "0,0 1,1"), () -> x.dot(1, 0, 0), () -> x.clear(1), () -> x.sum(0, 0),
            () -> x.under(0, 0), () -> x.join(0, 0), () -> x.turn(0), () -> x.hull(0), () -> x.cut(0, 0, 0),
            () -> x.move(0, 0, 0), () -> x.times(0, 0), () -> x.lay(0), () -> x.put(0), () -> x.undo(), () -> x.image(0),
            () -> x.back(0)};
        for (int k = 0; k < good.length; k++) {
            x.clear(6);
            due("status", x.status(), -2);
            good[k].getAsInt();
            due("status behind call " + k, x.status(), 0);
        }
    }

    /** feed, end, fault and all questions are not among those that status() is told of. */
    @Sentence(promise = 35, says = "the latest call of read, dot, clear,")
    void statusStaysBehindQuestions() {
        x.dot(0, 5941, 0);
        x.feed(0, 0, 0, 0, 0);
        x.end(99);
        x.end(0);
        x.fault();
        for (int n : FAR) {
            x.paper(n, n);
            x.knot(n, n, n);
            x.value(n, n, n);
            x.bits(n, n);
            x.limit(n, n, n);
            x.of(n, n);
            x.least(n, n);
            x.slope(n, n, n);
            x.area(n, n);
            x.where(n, n, n);
            x.places(n, n, n);
            x.split(n, n, n, n);
            x.compare(n, n);
            x.count(n);
        }
        due("status", x.status(), -1);
        due("calls REFUSED by -1", x.count(11), 1);
        for (int what = 12; what <= 15; what++) {
            due("count(" + what + ")", x.count(what), 0);
        }
    }
}
