import java.util.Arrays;

/** For each promise of the document answers worked out by hand: ordinary ones, edges, wrong inputs. */
public final class PromiseTest extends Bench {
    private PromiseTest(String promise) {
        name = "promise " + promise;
    }

    public static void main(String[] args) {
        new PromiseTest("1 new").newObject();
        new PromiseTest("2 feed").feed();
        new PromiseTest("3 end").end();
        new PromiseTest("4 read").read();
        new PromiseTest("5 fault").fault();
        new PromiseTest("5 fault, the order of faults").faultOrder();
        new PromiseTest("6 dot").dot();
        new PromiseTest("7 clear").clear();
        new PromiseTest("8 sum").sum();
        new PromiseTest("9 under").under();
        new PromiseTest("10 join").join();
        new PromiseTest("11 turn").turn();
        new PromiseTest("12 hull").hull();
        new PromiseTest("13 cut").cut();
        new PromiseTest("14 move").move();
        new PromiseTest("15 times").times();
        new PromiseTest("16 lay").lay();
        new PromiseTest("17 put").put();
        new PromiseTest("18 undo").undo();
        new PromiseTest("19, 20 image, back").imageAndBack();
        new PromiseTest("21 paper").paper();
        new PromiseTest("22 knot").knot();
        new PromiseTest("23 value").value();
        new PromiseTest("24 bits").bits();
        new PromiseTest("25 limit").limit();
        new PromiseTest("26 of").of();
        new PromiseTest("27 least").least();
        new PromiseTest("28 slope").slope();
        new PromiseTest("29 area").area();
        new PromiseTest("30 where").where();
        new PromiseTest("31 places").places();
        new PromiseTest("32 split").split();
        new PromiseTest("33 compare").compare();
        new PromiseTest("34 count").count();
        new PromiseTest("35 status").status();
        tell("PromiseTest");
    }

    // ---- helps

    private void refusesStores(String name, java.util.function.IntUnaryOperator call) {
        for (int i : NO_STORES) {
            due(name + "(" + i + ")", call.applyAsInt(i), -2);
            due("status behind it", x.status(), -2);
        }
    }

    // ---- the promises

    private void newObject() {
        for (int w = 0; w < 16; w++) {
            due("count(" + w + ")", x.count(w), w == 8 ? 1 : 0);
        }
        due("status()", x.status(), 0);
        due("fault()", x.fault(), -1);
        due("undo()", x.undo(), -4);
        due("back(0)", x.back(0), -2);
        due("paper(0, 0)", x.paper(0, 0), NOTHING);
        due("NONE", LeastSums.NONE, -1);
        due("NOTHING", LeastSums.NOTHING, Long.MIN_VALUE);
    }

    private void feed() {
        for (int k = 1; k <= 20; k++) {
            due("feed", x.feed(-1, 0, 0, 0, 0), 20 * k);
        }
        due("feed beyond 400", x.feed(0, 0, 0, 0, 0), -1);
        due("count(10)", x.count(10), 400);
        x.end(381);
        due("feed with 381", x.feed(0, 0, 0, 0, 0), -1);
        x.end(380);
        due("feed with 380", x.feed(0, 0, 0, 0, 0), 400);
        x.end(0);
        due("feed the highest byte first", x.feed(0x302C3120, 0x322C3320, 0x20202020, 0x20202020, 0x20202034), 20);
        due("the 20th byte counts", x.read(0), -6);
        due("fault()", x.fault(), 20);
        due("feed", x.feed(0x302C3120, 0x322C3320, 0, 0, 0), 20);
        x.end(8);
        due("read", x.read(0), 2);
        storeIs(0, "0,1 2,3");
    }

    private void end() {
        due("end(1) of none", x.end(1), -1);
        due("end(0) of none", x.end(0), 0);
        x.feed(0, 0, 0, 0, 0);
        due("end(21)", x.end(21), -1);
        due("end(-1)", x.end(-1), -1);
        due("end(least)", x.end(Integer.MIN_VALUE), -1);
        due("count(10)", x.count(10), 20);
        due("end(20)", x.end(20), 20);
        due("end(7)", x.end(7), 7);
        due("end(8)", x.end(8), -1);
        due("count(10)", x.count(10), 7);
        due("feed", x.feed(0, 0, 0, 0, 0), 27);
    }

    private void read() {
        good(0, "0,0", 1);
        good(0, "  -  1 / 2 , - 3 / 4   0 , 5  ", 2);
        storeIs(0, "-1/2,-3/4 0,5");
        good(0, "-99,99 99,-99", 2);
        good(0, "5940/60,1/60", 1);
        good(0, "5940 / 60,0", 1);
        good(0, "0000000000000000000000000000000000000007,000/0000000000000000000000000000000000060", 1);
        storeIs(0, "7,0");
        good(0, "-0,-0", 1);
        good(0, "-1,0-0,1", 2);
        good(0, "0,0 1,1 2,2 3,3", 2);
        good(0, "0,0 1,1|1,1 2,2", 2);
        good(0, "0,0 1,1|1,1 2,1", 3);
        storeIs(0, "0,0 1,1 2,1");
        good(0, "0,0 1,0|1,5|1,0 2,0", 2);
        good(0, "0,0 1,0|1,-1|1,0 2,0", 5);
        good(0, "0,0 1,0|1,-1|1,-2|1,-1|1,5 2,0", 5);
        storeIs(0, "0,0 1,0|1,-2|1,5 2,0");
        good(0, "0,3|0,2|0,2|0,4", 1);
        storeIs(0, "0,2");
        good(0, "0,1|0,1 1,1", 2);
        good(0, "0,2|0,1 1,1|1,1", 2);
        good(0, "0,0 1,2|1,1 2,0", 4);
        storeIs(0, "0,0 1,2|1,1 2,0");
        good(0, "0,0 1,1 2,2 3,3 4,4 5,5 6,6 7,7 8,8 9,9 10,10 11,11", 2);
        due("tape behind read", x.count(10), 0);
        write("0,0");
        refusesStores("read", i -> x.read(i));
        due("the tape stays", x.count(10), 3);
        due("read", x.read(1), 1);
        due("a text refused changes nothing", text(1, "0,0 x"), -6);
        due("knots", x.count(1), 1);
        due("an empty tape", x.read(1), -6);
    }

    private void fault() {
        due("ahead of any", x.fault(), -1);
        bad("", 0);
        bad("   ", 3);
        bad("x", 0);
        bad(" x", 1);
        bad("0", 1);
        bad("0 ", 2);
        bad("0,", 2);
        bad("0,-", 3);
        bad("-", 1);
        bad("--1,0", 1);
        bad("0,0|", 4);
        bad("0,0 | ", 6);
        bad("|0,0", 0);
        bad("0,0||1,0", 4);
        bad("0,0,", 3);
        bad("0,0/", 4);
        bad("0,1/2/3", 5);
        bad("0,1/-2", 4);
        bad("0,1/0", 4);
        bad("0,1/00", 4);
        bad("0,1/61", 4);
        bad("10000,0", 0);
        bad("-10000,0", 1);
        bad("0,99999999999999999999999999", 2);
        bad("9999,0", 0);
        bad("-100,0", 0);
        bad("5941/60,0", 0);
        bad("0, -5941/60", 3);
        bad("1/7,0", 0);
        bad(" 1/ 7,0", 1);
        bad("0,1/59", 2);
        bad("0,0 0,1", 4);
        bad("1,0 -0,1", 4);
        bad("0,0 1,0| 0,5", 9);
        bad("0,0 1,0|1,0 1,5", 12);
        bad("0,0\t1,1", 3);
        bad("0,0 " + (char) 233, 4);
        bad("0 1", 2);
        bad("0,0 1", 5);
        bad(" ".repeat(400), 400);
        bad("0".repeat(400), 400);
        bad("0,-" + " ".repeat(397), 400);
        bad("1".repeat(400), 0);
        cutOff();
        write("0,0 ?");
        x.read(9);
        due("read refused by -2 tells no fault", x.fault(), 5);
        good(0, "0,0", 1);
        due("read refused by -2 keeps the fault", x.read(6), -2);
        due("fault", x.fault(), -1);
    }

    /** Bytes that end() took away are not read, whatever they are. */
    private void cutOff() {
        String[] texts = {"0,   ", "0,00 1,1", "0,1/6", "0,0|1", "5,67", "0,0-"};
        int[] kept = {2, 2, 4, 4, 3, 3};
        int[] faults = {2, 2, 4, 4, -1, -1};
        for (int k = 0; k < texts.length; k++) {
            write(texts[k] + " ".repeat(20));
            x.end(kept[k]);
            due("read of " + kept[k] + " bytes of " + texts[k], x.read(5), faults[k] < 0 ? 1 : -6);
            due("fault of " + kept[k] + " bytes of " + texts[k], x.fault(), faults[k]);
        }
        badHere("0,0 1", 5);
    }

    private void faultOrder() {
        bad("100/61,0", 4);
        bad("100/x", 4);
        bad("100/", 4);
        bad("100", 0);
        bad("100x", 0);
        bad("100 ,0", 0);
        good(0, "100/2,198/2", 1);
        bad("0,0 0", 4);
        bad("0,0 0x", 4);
        bad("0,0 100,", 4);
        String twelve = "0,0 1,1 2,0 3,1 4,0 5,1 6,0 7,1 8,0 9,1 10,0 11,1";
        good(0, twelve, 12);
        bad(twelve + " x", twelve.length() + 1);
        bad("0,0 1,1 2,2 3,3 4,4 5,5 6,6 7,7 8,8 9,9 10,10 11,11 12,12", 52);
        thirteenth(twelve);
    }

    /** A 13th KNOT is told by the first byte of its x, whatever follows in it or is missing. */
    private void thirteenth(String twelve) {
        String[] xs = {
            "12,5", "12", "1", "-12,5", "-", "- ", "-x", "--12,5", "-|", "-,", "-10000,0", "- 10000", "-99999,",
            "10000,0", "12/61,0", "12/0,0", "12/,0", "12/", "12 / ", "12/x", "12/-2,0", "12/|", "12/2", "-12/61",
            "-12/", "1/7,0", "-1/7", "100,0", "-100/61", "12x", "12,", "12,x", "12,1/61", "11,0", "3,0", "12 13",
            "x", ",", "|",
        };
        for (String ahead : new String[] {" ", "   ", "|", " | "}) {
            String begin = twelve + ahead;
            for (String told : xs) {
                boolean bar = told.equals("|") && !ahead.contains("|");
                bad(begin + told, begin.length() + (bar ? 1 : 0));
                bad(begin + told + " ", begin.length() + (bar ? 2 : 0));
            }
        }
        bad(twelve + "-", twelve.length());
        bad(twelve + "-12/61", twelve.length());
        bad(twelve + "|", twelve.length() + 1);
        bad(twelve + " |  ", twelve.length() + 4);
        bad(twelve + "|/", twelve.length() + 1);
        bad(twelve + "/61", twelve.length() + 1);
        bad(twelve + "/60 -", twelve.length() + 4);
        bad("0,0|".repeat(12) + "0/61", 48);
        good(0, "0,0|".repeat(11) + "0,0", 1);
        good(0, twelve + "  ", 12);
        due("a 13th KNOT changes nothing", text(0, twelve + " 12/61,0"), -6);
        due("KNOTS", x.count(0), 12);
    }

    private void dot() {
        due("dot", x.dot(0, 5940, -5940), 1);
        storeIs(0, "99,-99");
        due("dot", x.dot(0, 1, 30), 1);
        storeIs(0, "1/60,1/2");
        due("x too great", x.dot(0, 5941, 0), -1);
        due("y too small", x.dot(0, 0, -5941), -1);
        due("y least of all", x.dot(0, 0, Integer.MIN_VALUE), -1);
        due("-1 goes ahead of -2", x.dot(6, 5941, 0), -1);
        refusesStores("dot", i -> x.dot(i, 0, 0));
        storeIs(0, "1/60,1/2");
    }

    private void clear() {
        due("clear of nothing", x.clear(0), 0);
        due("it can be undone", x.undo(), 2);
        text(0, "0,0 1,1|2,2");
        due("clear", x.clear(0), 3);
        due("count(0)", x.count(0), 0);
        due("again", x.clear(0), 0);
        refusesStores("clear", i -> x.clear(i));
    }

    private void sum() {
        text(0, "0,0 2,2|3,1 5,1");
        text(1, "1,1 4,4");
        due("sum", x.sum(0, 1), 4);
        paperIs("1,2 2,4|3,4 4,5");
        due("the other way", x.sum(1, 0), 4);
        text(0, "0,0 1,2|1,1 2,1");
        text(1, "0,0 1,1|1,2 2,2");
        due("two jumps against each other", x.sum(0, 1), 5);
        paperIs("0,0 1,3|1,2|1,3 2,3");
        text(1, "0,0 1,-1|1,0 2,0");
        due("jumps, one lone sum", x.sum(0, 1), 5);
        paperIs("0,0 1,1|1,0|1,1 2,1");
        text(0, "0,0 1,1");
        text(1, "1,5 2,5");
        due("one x in common", x.sum(0, 1), 1);
        paperIs("1,6");
        text(0, "0,0 7/60,1");
        text(1, "0,0 11/60,1");
        due("odd fractions", x.sum(0, 1), 2);
        paperIs("0,0 7/60,18/11");
        text(0, "0,0 1,1 2,0");
        text(1, "0,0 1,-1 2,0");
        due("turns that make up for each other", x.sum(0, 1), 2);
        paperIs("0,0 2,0");
        due("with nothing", x.sum(0, 4), 0);
        refusesStores("sum", i -> x.sum(i, 0));
        refusesStores("sum", i -> x.sum(0, i));
    }

    private void under() {
        text(0, "0,0 4,4");
        text(1, "0,4 4,0");
        due("under", x.under(0, 1), 3);
        paperIs("0,0 2,2 4,0");
        text(1, "1,0 2,0");
        due("a lower piece", x.under(0, 1), 6);
        paperIs("0,0 1,1|1,0 2,0|2,2 4,4");
        text(1, "4,4 5,5");
        due("straight on", x.under(0, 1), 2);
        text(1, "2,2 5,5");
        due("straight on, one over the other", x.under(0, 1), 2);
        text(1, "4,4 5,4");
        due("a turn", x.under(0, 1), 3);
        x.dot(1, 120, 120);
        due("a dot on the line", x.under(0, 1), 2);
        x.dot(1, 120, 121);
        due("a dot over the line", x.under(0, 1), 2);
        x.dot(1, 120, 119);
        due("a dot under the line", x.under(0, 1), 5);
        paperIs("0,0 2,2|2,119/60|2,2 4,4");
        text(0, "0,0 3,1");
        text(1, "0,1 4,0");
        due("a crossing that is no place", x.under(0, 1), 3);
        paperIs("0,0 12/7,4/7 4,0");
        due("with nothing", x.under(0, 4), 2);
        due("nothing at all", x.under(3, 4), 0);
        refusesStores("under", i -> x.under(i, 0));
        refusesStores("under", i -> x.under(0, i));
    }

    private void join() {
        text(0, "0,0 1,1");
        text(1, "0,0 2,-2");
        due("by rising slopes", x.join(0, 1), 3);
        paperIs("0,0 2,-2 3,-1");
        text(0, "0,0|10,0");
        text(1, "0,0 1,1 2,0");
        due("dots and lines", x.join(0, 1), 6);
        paperIs("0,0 1,1 2,0|10,0 11,1 12,0");
        text(0, "0,0|1,0");
        due("dots that lie near", x.join(0, 1), 7);
        paperIs("0,0 1,1|1,0 3/2,1/2 2,0|2,1 3,0");
        text(0, "0,0|10,0|20,0");
        text(1, "0,-4 4,4|10,-2 14,2|20,0 24,0");
        due("three lines through one point", x.join(0, 1), 13);
        paperIs("0,-4 4,4|10,-4 12,0 14,2|20,-4 22,0 24,0|30,-2 32,0 34,0|40,0 44,0");
        text(0, "-99,99 99,-99");
        due("beyond all places", x.join(0, 0), 2);
        paperIs("-198,198 198,-198");
        due("with nothing", x.join(0, 4), 0);
        refusesStores("join", i -> x.join(i, 0));
        refusesStores("join", i -> x.join(0, i));
    }

    private void turn() {
        text(0, "0,0 1,2|2,3 4,4");
        due("rising", x.turn(0), 4);
        paperIs("0,0 2,1|3,2 4,4");
        text(0, "0,5 1,2|2,1 4,0|5,-1");
        due("falling", x.turn(0), 5);
        paperIs("-1,5|0,4 1,2|2,1 5,0");
        x.dot(0, 60, 30);
        due("a dot", x.turn(0), 1);
        paperIs("1/2,1");
        for (String text : new String[] {"0,0 1,0", "0,0 1,1 2,0", "0,0 1,1|1,2 2,3", "0,0 1,1|2,1", "0,0 1,2|2,1 3,5"}) {
            text(0, text);
            due("turn of " + text, x.turn(0), -4);
            due("of(0, 8)", x.of(0, 8), 0);
        }
        paperIs("1/2,1");
        due("of nothing", x.turn(4), 0);
        refusesStores("turn", i -> x.turn(i));
    }

    private void hull() {
        text(0, "0,0 1,5 2,1 3,5 4,0");
        due("hull", x.hull(0), 2);
        paperIs("0,0 4,0");
        text(0, "0,4|1,1|2,5|3,0 4,0|5,7");
        due("dots and gaps", x.hull(0), 5);
        paperIs("0,4 1,1 3,0 4,0 5,7");
        text(0, "0,-1|0,3 2,3|2,-5");
        due("lower dots at the ends", x.hull(0), 2);
        paperIs("0,-1 2,-5");
        text(0, "0,0 1,1 2,2|3,3");
        due("all straight", x.hull(0), 2);
        paperIs("0,0 3,3");
        x.dot(0, 7, 8);
        due("a dot", x.hull(0), 1);
        due("nothing", x.hull(4), 0);
        refusesStores("hull", i -> x.hull(i));
    }

    private void cut() {
        text(0, "0,0 3,1|3,0 5,2|6,6");
        due("inside a line", x.cut(0, 60, 120), 2);
        paperIs("1,1/3 2,2/3");
        due("at one x in a line", x.cut(0, 60, 60), 1);
        paperIs("1,1/3");
        due("at a jump: the lower end alone", x.cut(0, 180, 180), 1);
        paperIs("3,0");
        due("up to a jump: a dot stays", x.cut(0, 60, 180), 3);
        paperIs("1,1/3 3,1|3,0");
        due("from a jump on: the higher end is none", x.cut(0, 180, 240), 2);
        paperIs("3,0 4,1");
        due("the dot", x.cut(0, 301, 5940), 1);
        due("a gap", x.cut(0, 301, 359), 0);
        due("all", x.cut(0, -5940, 5940), 5);
        due("the wrong way", x.cut(0, 1, 0), -1);
        due("no place", x.cut(0, -5941, 0), -1);
        due("no place", x.cut(0, 0, 5941), -1);
        due("-1 ahead of -2", x.cut(6, 1, 0), -1);
        refusesStores("cut", i -> x.cut(i, 0, 0));
    }

    private void move() {
        text(0, "0,0 3,1|3,0 5,2");
        due("move", x.move(0, -90, 20), 4);
        paperIs("-3/2,1/3 3/2,4/3|3/2,1/3 7/2,7/3");
        due("beyond all places", x.move(0, 5940, -5940), 4);
        paperIs("99,-99 102,-98|102,-99 104,-97");
        due("no place", x.move(0, 5941, 0), -1);
        due("no place", x.move(0, 0, -5941), -1);
        due("-1 ahead of -2", x.move(6, 0, 5941), -1);
        due("nothing", x.move(4, 1, 1), 0);
        refusesStores("move", i -> x.move(i, 0, 0));
    }

    private void times() {
        text(0, "0,0 3,1|3,0 5,-2|5,-3|7,7");
        due("times 60", x.times(0, 60), 6);
        paperIs("0,0 3,60|3,0 5,-120|5,-180|7,420");
        due("times 1", x.times(0, 1), 6);
        paperIs("0,0 3,1|3,0 5,-2|5,-3|7,7");
        due("times 0", x.times(0, 0), 3);
        paperIs("0,0 5,0|7,0");
        due("times -1", x.times(0, -1), -1);
        due("times 61", x.times(0, 61), -1);
        due("-1 ahead of -2", x.times(6, 61), -1);
        refusesStores("times", i -> x.times(i, 1));
    }

    private void lay() {
        text(0, "0,0 3,1|3,0");
        due("lay", x.lay(0), 3);
        paperIs("0,0 3,1|3,0");
        x.clear(0);
        paperIs("0,0 3,1|3,0");
        due("lay of nothing", x.lay(0), 0);
        paperIs("");
        refusesStores("lay", i -> x.lay(i));
    }

    private void put() {
        due("nothing", x.put(0), 0);
        text(0, "0,0 3,1|3,0");
        x.lay(0);
        due("put", x.put(5), 3);
        storeIs(5, "0,0 3,1|3,0");
        x.cut(0, 60, 120);
        due("y of twenty sixtieths", x.put(4), 2);
        x.cut(0, 1, 2);
        due("no place", x.put(4), -5);
        due("status", x.status(), -5);
        due("-2 ahead of -5", x.put(6), -2);
        storeIs(4, "1,1/3 2,2/3");
        x.move(0, 5760, 0);
        due("x at its greatest", x.put(4), 3);
        x.move(0, 5761, 0);
        due("x beyond it", x.put(4), -5);
        x.move(0, 0, 5880);
        due("y at its greatest", x.put(4), 3);
        x.move(0, 0, 5881);
        due("y beyond it", x.put(4), -5);
        text(0, "0,0|1,0|2,0|3,0|4,0|5,0|6,0");
        text(1, "7,0|8,0|9,0|10,0|11,0");
        x.under(0, 1);
        due("12 knots", x.put(4), 12);
        x.dot(2, 720, 0);
        x.under(4, 2);
        due("13 knots on PAPER", x.count(6), 13);
        due("13 knots", x.put(4), -5);
        refusesStores("put", i -> x.put(i));
    }

    private void undo() {
        text(0, "0,0 1,1");
        x.dot(1, 0, 0);
        x.clear(1);
        x.sum(0, 0);
        x.under(0, 0);
        x.join(0, 0);
        x.turn(0);
        x.hull(0);
        due("8 can be undone", x.count(9), 8);
        x.cut(0, 0, 30);
        due("8 still", x.count(9), 8);
        x.move(0, 1, 1);
        x.times(0, 2);
        x.lay(0);
        x.put(3);
        x.turn(9);
        x.read(0);
        x.image(0);
        int[] acts = {12, 11, 10, 9, 8, 7, 6, 5};
        for (int act : acts) {
            due("undo()", x.undo(), act);
            if (act == 12) {
                due("STORE 3", x.count(3), 0);
            }
            if (act == 9) {
                paperIs("0,0 1/2,1/2");
            }
        }
        due("none is left", x.undo(), -4);
        due("status", x.status(), -4);
        paperIs("0,0 1,1");
        due("PAPER as behind under()", x.count(6), 2);
        due("what was refused stays told", x.count(12), 1);
        due("texts refused, too", x.count(15), 1);
        due("fault stays", x.fault(), 0);
        due("the image stays", x.back(0), 4);
        x.clear(0);
        due("undo of clear", x.undo(), 2);
        storeIs(0, "0,0 1,1");
        write("5,5");
        x.read(0);
        due("undo of read", x.undo(), 0);
        due("the tape stays empty", x.count(10), 0);
        storeIs(0, "0,0 1,1");
    }

    private void imageAndBack() {
        due("image(2)", x.image(2), -1);
        due("image(-1)", x.image(-1), -1);
        due("back(2)", x.back(2), -1);
        due("back(-1)", x.back(-1), -1);
        due("back(1)", x.back(1), -2);
        text(0, "0,0 1,1");
        x.dot(5, 60, 60);
        x.lay(0);
        due("image(1)", x.image(1), 3);
        x.clear(0);
        x.lay(5);
        due("back(0) was not kept", x.back(0), -2);
        due("acts", x.count(9), 5);
        due("back(1)", x.back(1), 3);
        due("none can be undone", x.count(9), 0);
        due("undo()", x.undo(), -4);
        paperIs("0,0 1,1");
        due("image(0)", x.image(0), 3);
        x.clear(0);
        due("image(1) anew", x.image(1), 1);
        due("back(0)", x.back(0), 3);
        due("back(1)", x.back(1), 1);
        due("back(1) once more", x.back(1), 1);
        x.dot(3, 0, 0);
        due("back(1) is as it was kept", x.back(1), 1);
        due("status", x.status(), 0);
        due("refused by -1", x.count(11), 4);
        due("refused by -2", x.count(12), 2);
        due("image() can't be undone", x.undo(), -4);
    }

    private void paper() {
        text(0, "0,1 4,0|5,-1/2");
        text(1, "0,0 3,1");
        x.under(0, 1);
        due("x upper", x.paper(1, 0), 12);
        due("x lower", x.paper(1, 1), 7);
        due("y upper", x.paper(1, 2), 4);
        due("y lower", x.paper(1, 3), 7);
        due("line", x.paper(1, 4), 1);
        due("end", x.paper(2, 4), 0);
        due("y below 0", x.paper(3, 2), -1);
        due("its lower one", x.paper(3, 3), 2);
        due("0 by 1", x.paper(0, 1), 1);
        due("no such knot", x.paper(4, 0), NOTHING);
        due("no such knot", x.paper(-1, 4), NOTHING);
        due("no such knot", x.paper(Integer.MAX_VALUE, 0), NOTHING);
        due("no such what", x.paper(0, 5), NOTHING);
        due("no such what", x.paper(0, -1), NOTHING);
    }

    private void knot() {
        text(0, "-1/60,1/2 1,2|3,3");
        due("x", x.knot(0, 0, 0), -1);
        due("y", x.knot(0, 0, 1), 30);
        due("line", x.knot(0, 0, 2), 1);
        due("end", x.knot(0, 1, 2), 0);
        due("dot", x.knot(0, 2, 2), 0);
        for (int[] a : new int[][] {{0, 3, 0}, {0, -1, 0}, {0, 0, 3}, {0, 0, -1}, {6, 0, 0}, {-1, 0, 0}, {1, 0, 0}}) {
            due("knot " + Arrays.toString(a), x.knot(a[0], a[1], a[2]), ABSENT);
        }
    }

    private void value() {
        text(0, "0,0 3,-1|3,-2|3,5 4,5|6,1");
        due("on a line", x.value(0, 60, 0), -1);
        due("on a line", x.value(0, 60, 1), 3);
        due("least of three", x.value(0, 180, 0), -2);
        due("at its begin", x.value(0, 0, 1), 1);
        due("in a gap", x.value(0, 241, 0), NOTHING);
        due("a dot", x.value(0, 360, 0), 1);
        due("ahead of all", x.value(0, -1, 0), NOTHING);
        due("behind all", x.value(0, 361, 1), NOTHING);
        due("no place", x.value(0, 5941, 0), NOTHING);
        due("no what", x.value(0, 60, 2), NOTHING);
        due("no what", x.value(0, 60, -1), NOTHING);
        due("no store", x.value(6, 60, 0), NOTHING);
        due("no store", x.value(-1, 60, 0), NOTHING);
    }

    private void bits() {
        text(0, "0,0 3,-1|5,99 6,-99|10,-1/60");
        due("0", x.bits(0, 0), 0);
        due("-1/3", x.bits(0, 60), Float.floatToIntBits(-1f / 3f));
        due("-1", x.bits(0, 180), Float.floatToIntBits(-1f));
        due("99", x.bits(0, 300), Float.floatToIntBits(99f));
        due("-1/60", x.bits(0, 600), Float.floatToIntBits(-1f / 60f));
        due("a gap", x.bits(0, 240), 0);
        due("no place", x.bits(0, 6000), 0);
        due("no store", x.bits(6, 0), 0);
        text(1, "-99,-5939/60 5939/60,5939/60");
        due("an upper number beyond 24 bits", x.bits(1, 5938),
                Float.floatToIntBits((float) x.value(1, 5938, 0) / (float) x.value(1, 5938, 1)));
        text(1, "-99,0 99,1/60");
        due("a small one", x.bits(1, -5939), Float.floatToIntBits(1f / 712800f));
    }

    private void limit() {
        text(0, "0,0 3,-1|3,-2|3,5 4,4|6,1");
        due("from the left", x.limit(0, 180, 0), -1);
        due("from the left", x.limit(0, 180, 1), 1);
        due("to the right", x.limit(0, 180, 2), 5);
        due("inside a line", x.limit(0, 60, 0), -1);
        due("inside a line", x.limit(0, 60, 3), 3);
        due("nothing comes from the left", x.limit(0, 0, 0), NOTHING);
        due("nothing goes to the right", x.limit(0, 240, 2), NOTHING);
        due("from the left to an end", x.limit(0, 240, 0), 4);
        for (int w = -1; w < 5; w++) {
            due("a dot", x.limit(0, 360, w), NOTHING);
            due("no store", x.limit(6, 60, w), NOTHING);
            due("no place", x.limit(0, -5941, w), NOTHING);
        }
        due("no what", x.limit(0, 60, 4), NOTHING);
        due("no what", x.limit(0, 60, -1), NOTHING);
    }

    private void ofAll(String text, int... due) {
        if (text.isEmpty()) {
            x.clear(0);
        } else {
            text(0, text);
        }
        for (int w = 0; w < due.length; w++) {
            due("of(0, " + w + ") of \"" + text + "\"", x.of(0, w), due[w]);
        }
    }

    private void of() {
        ofAll("", 0, 0, 0, 0, 0, ABSENT, ABSENT, 0, 1, 0);
        ofAll("1,1/2", 1, 1, 0, 0, 1, 60, 60, 0, 1, 0);
        ofAll("0,0 1,1", 2, 1, 1, 0, 1, 0, 60, 60, 1, 0);
        ofAll("0,5 1,0 2,0 3,1", 4, 1, 3, 0, 1, 0, 180, 180, 0, 0);
        ofAll("0,0 1,2 2,3", 3, 1, 2, 0, 0, 0, 120, 120, 1, 1);
        ofAll("0,0 1,2|1,1|1,3 2,3|5,9 6,8", 7, 4, 3, 2, 0, 0, 360, 180, 0, 2);
        ofAll("0,0 1,1|2,2 3,3", 4, 2, 2, 0, 0, 0, 180, 120, 1, 0);
        ofAll("-1,3|0,2|4,0", 3, 3, 0, 0, 0, -60, 240, 0, 1, 0);
        due("no what", x.of(0, 10), ABSENT);
        due("no what", x.of(0, -1), ABSENT);
        due("no store", x.of(6, 0), ABSENT);
        due("no store", x.of(-1, 8), ABSENT);
    }

    private void least() {
        text(0, "-3,5 -2,-1/2 -1,-1/2|0,7|1,-1/2 2,6|2,-1/2");
        due("least", x.least(0, 0), -30);
        due("first", x.least(0, 1), -120);
        due("last", x.least(0, 2), 120);
        due("greatest", x.least(0, 3), 420);
        due("no what", x.least(0, 4), ABSENT);
        due("no what", x.least(0, -1), ABSENT);
        due("nothing", x.least(1, 0), ABSENT);
        due("nothing", x.least(1, 3), ABSENT);
        due("no store", x.least(6, 0), ABSENT);
    }

    private void slope() {
        text(0, "0,0 3,-1|4,4|5,5 6,5 7,105/60");
        due("falling", x.slope(0, 0, 0), -1);
        due("falling", x.slope(0, 0, 1), 3);
        due("level, behind a dot", x.slope(0, 1, 0), 0);
        due("level", x.slope(0, 1, 1), 1);
        due("last", x.slope(0, 2, 0), -13);
        due("last", x.slope(0, 2, 1), 4);
        due("none", x.slope(0, 3, 0), NOTHING);
        due("none", x.slope(0, -1, 0), NOTHING);
        due("no what", x.slope(0, 0, 2), NOTHING);
        due("no store", x.slope(6, 0, 0), NOTHING);
    }

    private void area() {
        text(0, "0,0 1,1|1,5|2,-1 5,-1|6,0 7,1/60");
        due("area", x.area(0, 0), -299);
        due("area", x.area(0, 1), 120);
        x.dot(0, 60, 60);
        due("without lines", x.area(0, 0), 0);
        due("without lines", x.area(0, 1), 1);
        due("of nothing", x.area(1, 0), 0);
        due("of nothing", x.area(1, 1), 1);
        text(0, "-99,-99 99,-99");
        due("greatest", x.area(0, 0), -198 * 99);
        due("no what", x.area(0, 2), NOTHING);
        due("no store", x.area(-1, 0), NOTHING);
    }

    private void where() {
        text(0, "0,-1|0,1 2,1|3,0 6,2|6,1 7,1|8,9");
        due("a level line whose first end is covered", x.where(0, 60, 0), 2);
        due("a line comes to it", x.where(0, 30, 0), 15);
        due("a line comes to it", x.where(0, 30, 1), 4);
        due("a covered end", x.where(0, 120, 0), NOTHING);
        due("the covering dot", x.where(0, -60, 0), 0);
        due("the begin of a line", x.where(0, 0, 0), 3);
        due("the last dot", x.where(0, 540, 0), 8);
        due("nowhere", x.where(0, 541, 0), NOTHING);
        due("no place", x.where(0, 5941, 0), NOTHING);
        due("no what", x.where(0, 60, 2), NOTHING);
        due("no store", x.where(6, 60, 0), NOTHING);
        text(0, "0,3 3,-3");
        due("falling", x.where(0, -20, 0), 5);
        due("falling", x.where(0, -20, 1), 3);
    }

    private void places() {
        text(0, "0,0 1,1|1,2 2,2|3,3|4,4");
        due("all", x.places(0, -5940, 5940), 123);
        due("one", x.places(0, 60, 60), 1);
        due("some", x.places(0, 59, 61), 3);
        due("a gap", x.places(0, 121, 179), 0);
        due("with a dot", x.places(0, 121, 180), 1);
        due("nothing", x.places(1, 0, 60), 0);
        due("the wrong way", x.places(0, 1, 0), -1);
        due("no place", x.places(0, -5941, 0), -1);
        due("no place", x.places(0, 0, 5941), -1);
        due("no store", x.places(6, 0, 0), -1);
    }

    private void split() {
        text(0, "0,0 2,0");
        text(1, "0,0 2,0");
        due("all alike: the least share", x.split(0, 1, 180, 2), 1);
        due("all alike", x.split(0, 1, 180, 0), 0);
        text(1, "0,0 7,3");
        due("a fraction", x.split(0, 1, 180, 0), 3);
        due("a fraction", x.split(0, 1, 180, 1), 7);
        due("its share", x.split(0, 1, 180, 2), 2);
        due("its share", x.split(0, 1, 180, 3), 1);
        due("a share of half", x.split(0, 1, 30, 2), 1);
        due("a share of half", x.split(0, 1, 30, 3), 2);
        due("beyond", x.split(0, 1, 541, 0), NOTHING);
        due("at the end", x.split(0, 1, 540, 0), 3);
        due("with nothing", x.split(0, 2, 0, 0), NOTHING);
        due("no place", x.split(0, 1, 5941, 0), NOTHING);
        due("no what", x.split(0, 1, 60, 4), NOTHING);
        due("no what", x.split(0, 1, 60, -1), NOTHING);
        due("no store", x.split(6, 1, 60, 0), NOTHING);
        due("no store", x.split(0, -1, 60, 0), NOTHING);
        due("PAPER stays", x.count(6), 0);
    }

    private void comparesAs(String f, String g, int due) {
        text(0, f);
        text(1, g);
        due("compare \"" + f + "\" with \"" + g + "\"", x.compare(0, 1), due);
        due("the other way", x.compare(1, 0), due == 1 || due == -1 ? -due : due);
    }

    private void compare() {
        comparesAs("0,0 4,4", "2,2 6,6", 0);
        comparesAs("0,0 4,4", "0,0 4,5", -1);
        comparesAs("0,1 4,4", "0,0 4,4", 1);
        comparesAs("0,0 4,4", "0,4 4,0", 2);
        comparesAs("0,0 1,0", "2,0 3,0", 3);
        comparesAs("0,0 1,0", "1,0 2,5", 0);
        comparesAs("0,0 1,0", "1,1 2,-5", -1);
        comparesAs("0,0 1,0|1,-1|1,0 2,0", "0,0 2,0", -1);
        comparesAs("0,0|2,0|4,0", "0,0 1,9 2,0 3,-9 4,0", 0);
        comparesAs("0,0 2,2|2,-1", "2,0", -1);
        comparesAs("0,0 2,0|2,-1 4,-1", "0,0|2,-1|3,-2", 1);
        comparesAs("0,1 2,1|2,0", "0,0 2,0", 1);
        due("nothing", x.compare(0, 4), 3);
        due("nothing with itself", x.compare(4, 4), 3);
        due("no store", x.compare(6, 0), -2);
        due("no store", x.compare(0, -1), -2);
        due("no act, so not refused", x.status(), 0);
        due("no act, so not refused", x.count(12), 0);
    }

    private void count() {
        text(5, "0,0 1,1|5,5");
        due("STORE 5", x.count(5), 3);
        x.lay(5);
        due("KNOTS of PAPER", x.count(6), 3);
        due("PARTS of PAPER", x.count(7), 2);
        due("can be put", x.count(8), 1);
        due("can be undone", x.count(9), 2);
        write("1234567");
        due("bytes", x.count(10), 7);
        x.dot(0, 9999, 0);
        x.dot(0, 9999, 0);
        x.clear(7);
        x.undo();
        x.undo();
        x.undo();
        due("refused by -1", x.count(11), 2);
        due("refused by -2", x.count(12), 1);
        due("refused by -4", x.count(13), 1);
        text(0, "0,0 7,1");
        x.cut(0, 1, 2);
        x.put(0);
        due("can't be put", x.count(8), 0);
        due("refused by -5", x.count(14), 1);
        text(0, "?");
        due("refused by -6", x.count(15), 1);
        due("no what", x.count(16), -1);
        due("no what", x.count(-1), -1);
    }

    private void status() {
        due("ahead of any", x.status(), 0);
        x.dot(0, 6000, 0);
        due("-1", x.status(), -1);
        x.count(0);
        x.end(0);
        x.feed(0, 0, 0, 0, 0);
        x.end(99);
        x.value(9, 0, 0);
        due("questions and the tape change nothing", x.status(), -1);
        x.dot(0, 0, 0);
        due("0", x.status(), 0);
        x.undo();
        x.undo();
        due("-4", x.status(), -4);
        x.image(0);
        due("image", x.status(), 0);
        x.image(5);
        due("image refused", x.status(), -1);
        x.back(0);
        due("back", x.status(), 0);
        x.back(1);
        due("back refused", x.status(), -2);
        x.read(0);
        due("-6", x.status(), -6);
        x.dot(0, 0, 0);
        x.move(0, 5940, 0);
        x.put(1);
        x.move(1, 1, 0);
        x.put(1);
        due("-5", x.status(), -5);
        x.undo();
        due("undo", x.status(), 0);
    }
}
