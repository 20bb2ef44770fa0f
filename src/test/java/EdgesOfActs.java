import java.util.function.IntSupplier;
import java.util.function.IntUnaryOperator;

/** Promises 6 to 20: what changes STORE and PAPER, what is taken back, IMAGES. */
final class EdgesOfActs extends Bench {

    /** No such place of STORE: REFUSED by -2, and what stands stays. */
    private void refusesStores(String act, IntUnaryOperator call) {
        String before = state();
        for (int i : NO_STORES) {
            refused(act + " with " + i, -2, () -> call.applyAsInt(i));
        }
        dueText("the state behind " + act, state(), before);
    }

    private void refusesNumbers(String act, int[] numbers, IntUnaryOperator call) {
        String before = state();
        for (int n : numbers) {
            refused(act + " with " + n, -1, () -> call.applyAsInt(n));
        }
        dueText("the state behind " + act, state(), before);
    }

    /** The call tells how many KNOTS came onto PAPER, and is not REFUSED. */
    private void tellsKnots(String act, IntSupplier call, String paper) {
        x.turn(9);
        int got = call.getAsInt();
        due(act, got, paper.isEmpty() ? 0 : paper.split("[ |]").length);
        due("KNOTS of PAPER behind " + act, x.count(6), got);
        due("status behind " + act, x.status(), 0);
        paperIs(paper);
    }

    private void twoFunctions() {
        text(0, "0,0 2,2|3,1 5,1");
        text(1, "1,1 4,4");
    }

    // ---- dot, clear

    @Sentence(promise = 6, says = "A KNOT of its own is the FUNCTION of a place: 1.")
    void dotIsTheWholeFunction() {
        text(5, "0,0 1,1");
        for (int i = 0; i < 6; i++) {
            due("dot(" + i + ")", x.dot(i, 60 + i, -30), 1);
            due("status", x.status(), 0);
            due("x", x.knot(i, 0, 0), 60 + i);
            due("y", x.knot(i, 0, 1), -30);
            due("KNOTS", x.of(i, 0), 1);
            due("no line", x.knot(i, 0, 2), 0);
        }
    }

    @Sentence(promise = 6, says = "-1 (x, y no PLACES);")
    void dotOfNoPlace() {
        x.dot(0, -5940, 5940);
        refusesNumbers("dot x", NO_PLACES, n -> x.dot(0, n, 0));
        refusesNumbers("dot y", NO_PLACES, n -> x.dot(0, 0, n));
        due("both at the bound", x.dot(0, 5940, -5940), 1);
    }

    @Sentence(promise = 6, says = "-2.")
    void dotOfNoStore() {
        refusesStores("dot", i -> x.dot(i, 0, 0));
    }

    @Sentence(promise = 7, says = {"Nothing is there any more:", "how many KNOTS it had."})
    void clearTellsWhatItHad() {
        text(5, "0,0 1,1|2,2");
        due("clear(5)", x.clear(5), 3);
        due("status", x.status(), 0);
        storeIs(5, "");
        due("least x", x.of(5, 5), ABSENT);
        due("clear(5) of NOTHING", x.clear(5), 0);
        due("it is no REFUSED call", x.status(), 0);
        due("and can be undone", x.count(9), 3);
        x.undo();
        x.undo();
        storeIs(5, "0,0 1,1|2,2");
    }

    @Sentence(promise = 7, says = "Nothing is there any more:")
    void clearBehindManyActs() {
        for (int k = 0; k < 12; k++) {
            text(0, "0,0 1,1|2,2");
        }
        due("clear", x.clear(0), 3);
        storeIs(0, "");
        due("a KNOT behind it", x.dot(0, 0, 0), 1);
        storeIs(0, "0,0");
    }

    @Sentence(promise = 7, says = "-2.")
    void clearOfNoStore() {
        refusesStores("clear", i -> x.clear(i));
    }

    // ---- onto PAPER

    @Sentence(promise = 8, says = {"SUM of i and j onto PAPER:", "how many KNOTS."})
    void sumOntoPaper() {
        twoFunctions();
        tellsKnots("sum", () -> x.sum(0, 1), "1,2 2,4|3,4 4,5");
        tellsKnots("sum, the other way", () -> x.sum(1, 0), "1,2 2,4|3,4 4,5");
        tellsKnots("sum with itself", () -> x.sum(1, 1), "1,2 4,8");
        tellsKnots("sum with NOTHING", () -> x.sum(0, 5), "");
        tellsKnots("sum of NOTHING", () -> x.sum(5, 0), "");
        storeIs(0, "0,0 2,2|3,1 5,1");
    }

    @Sentence(promise = 8, says = "-2.")
    void sumOfNoStore() {
        refusesStores("sum", i -> x.sum(i, 0));
        refusesStores("sum", i -> x.sum(0, i));
        refusesStores("sum", i -> x.sum(i, i));
    }

    @Sentence(promise = 9, says = {"UNDER of i and j onto PAPER:", "how many KNOTS."})
    void underOntoPaper() {
        twoFunctions();
        tellsKnots("under", () -> x.under(0, 1), "0,0 3,3|3,1 5,1");
        tellsKnots("under, the other way", () -> x.under(1, 0), "0,0 3,3|3,1 5,1");
        tellsKnots("under itself", () -> x.under(0, 0), "0,0 2,2|3,1 5,1");
        tellsKnots("under NOTHING", () -> x.under(0, 5), "0,0 2,2|3,1 5,1");
        tellsKnots("NOTHING under NOTHING", () -> x.under(5, 5), "");
    }

    @Sentence(promise = 9, says = "-2.")
    void underOfNoStore() {
        refusesStores("under", i -> x.under(i, 0));
        refusesStores("under", i -> x.under(0, i));
        refusesStores("under", i -> x.under(i, i));
    }

    @Sentence(promise = 10, says = {"JOINED of i and j onto PAPER:", "how many KNOTS."})
    void joinOntoPaper() {
        text(0, "0,0 1,1");
        text(1, "0,0 2,-2");
        tellsKnots("join", () -> x.join(0, 1), "0,0 2,-2 3,-1");
        tellsKnots("join, the other way", () -> x.join(1, 0), "0,0 2,-2 3,-1");
        tellsKnots("join with NOTHING", () -> x.join(0, 5), "");
        tellsKnots("join of NOTHING", () -> x.join(5, 5), "");
        text(0, "-99,99 99,-99");
        tellsKnots("beyond all PLACES", () -> x.join(0, 0), "-198,198 198,-198");
    }

    /** Lines that cross at no PLACE, three of them in one point, and dots that cover lines. */
    @Sentence(promise = 10, says = "JOINED of i and j onto PAPER:")
    void joinOfManyLines() {
        text(0, "0,0|1,0");
        text(1, "0,0 1,1 2,0");
        tellsKnots("dots that lie near", () -> x.join(0, 1), "0,0 1,1|1,0 3/2,1/2 2,0|2,1 3,0");
        text(0, "0,0|10,0|20,0");
        text(1, "0,-4 4,4|10,-2 14,2|20,0 24,0");
        tellsKnots("three lines through one point", () -> x.join(0, 1),
                "0,-4 4,4|10,-4 12,0 14,2|20,-4 22,0 24,0|30,-2 32,0 34,0|40,0 44,0");
        text(0, "0,0|1/60,0");
        text(1, "0,0 7,1 9,0");
        tellsKnots("crossings that are no PLACES", () -> x.join(0, 1),
                "0,0 1/60,1/420|1/60,0 1891/270,539/540 9,0|9,1/120 541/60,0");
    }

    @Sentence(promise = 10, says = "-2.")
    void joinOfNoStore() {
        refusesStores("join", i -> x.join(i, 0));
        refusesStores("join", i -> x.join(0, i));
        refusesStores("join", i -> x.join(i, i));
    }

    @Sentence(promise = 11, says = {"TURNED onto PAPER:", "how many KNOTS."})
    void turnOntoPaper() {
        text(0, "0,0 1,2|2,3 4,4");
        tellsKnots("turn", () -> x.turn(0), "0,0 2,1|3,2 4,4");
        text(0, "0,5 1,2|2,1 4,0|5,-1");
        tellsKnots("turn of one that falls", () -> x.turn(0), "-1,5|0,4 1,2|2,1 5,0");
        tellsKnots("turn of NOTHING", () -> x.turn(3), "");
    }

    @Sentence(promise = 11, says = "-2;")
    void turnOfNoStore() {
        refusesStores("turn", i -> x.turn(i));
    }

    @Sentence(promise = 11, says = "-4 (it can't be).")
    void turnThatCannotBe() {
        text(1, "7,7");
        x.lay(1);
        for (String text : new String[] {"0,0 1,0", "0,0 1,1 2,0", "0,0 1,1|1,2 2,3", "0,0 1,1|2,1", "0,1|1,0|2,0"}) {
            text(0, text);
            refused("turn of " + text, -4, () -> x.turn(0));
            paperIs("7,7");
        }
    }

    @Sentence(promise = 12, says = {"HULL onto PAPER:", "how many KNOTS."})
    void hullOntoPaper() {
        text(0, "0,4|1,1|2,5|3,0 4,0|5,7");
        tellsKnots("hull", () -> x.hull(0), "0,4 1,1 3,0 4,0 5,7");
        text(0, "0,0 1,1 2,2|3,3|3,4 4,4");
        tellsKnots("hull of KNOTS in one line", () -> x.hull(0), "0,0 4,4");
        x.dot(0, 60, -30);
        tellsKnots("hull of a KNOT", () -> x.hull(0), "1,-1/2");
        tellsKnots("hull of NOTHING", () -> x.hull(5), "");
    }

    @Sentence(promise = 12, says = "-2.")
    void hullOfNoStore() {
        refusesStores("hull", i -> x.hull(i));
    }

    @Sentence(promise = 13, says = {"CUT onto PAPER:", "how many KNOTS."})
    void cutOntoPaper() {
        text(0, "0,0 3,1|3,0 5,2|6,6");
        tellsKnots("cut inside a line", () -> x.cut(0, 60, 120), "1,1/3 2,2/3");
        tellsKnots("cut at one x", () -> x.cut(0, 60, 60), "1,1/3");
        tellsKnots("cut at a jump", () -> x.cut(0, 180, 180), "3,0");
        tellsKnots("cut from a jump on", () -> x.cut(0, 180, 360), "3,0 5,2|6,6");
        tellsKnots("cut up to a jump", () -> x.cut(0, 0, 180), "0,0 3,1|3,0");
        tellsKnots("cut to a gap", () -> x.cut(0, 301, 359), "");
        tellsKnots("cut of all", () -> x.cut(0, -5940, 5940), "0,0 3,1|3,0 5,2|6,6");
        tellsKnots("cut of NOTHING", () -> x.cut(5, 0, 0), "");
    }

    @Sentence(promise = 13, says = "-1 (no PLACES, the first behind the second);")
    void cutOfNoPlaces() {
        text(0, "0,0 3,1");
        refusesNumbers("cut from", NO_PLACES, n -> x.cut(0, n, 5940));
        refusesNumbers("cut to", NO_PLACES, n -> x.cut(0, -5940, n));
        refusesNumbers("cut both", NO_PLACES, n -> x.cut(0, n, n));
        refused("the first behind the second", -1, () -> x.cut(0, 1, 0));
        due("the first at the second", x.cut(0, 1, 1), 1);
        due("at the bounds", x.cut(0, 5940, 5940), 0);
        due("at the bounds", x.cut(0, -5940, -5940), 0);
    }

    @Sentence(promise = 13, says = "-2.")
    void cutOfNoStore() {
        refusesStores("cut", i -> x.cut(i, 0, 1));
    }

    @Sentence(promise = 14, says = {"MOVED onto PAPER:", "how many KNOTS."})
    void moveOntoPaper() {
        text(0, "0,0 3,1|3,0 5,2|6,6");
        tellsKnots("move", () -> x.move(0, -60, 30), "-1,1/2 2,3/2|2,1/2 4,5/2|5,13/2");
        tellsKnots("move by nothing", () -> x.move(0, 0, 0), "0,0 3,1|3,0 5,2|6,6");
        tellsKnots("move to the greatest", () -> x.move(0, 5940, 5940), "99,99 102,100|102,99 104,101|105,105");
        tellsKnots("move to the least", () -> x.move(0, -5940, -5940), "-99,-99 -96,-98|-96,-99 -94,-97|-93,-93");
        tellsKnots("move of NOTHING", () -> x.move(5, 1, 1), "");
    }

    @Sentence(promise = 14, says = "-1 (no PLACES);")
    void moveByNoPlaces() {
        refusesNumbers("move x", NO_PLACES, n -> x.move(0, n, 0));
        refusesNumbers("move y", NO_PLACES, n -> x.move(0, 0, n));
    }

    @Sentence(promise = 14, says = "-2.")
    void moveOfNoStore() {
        refusesStores("move", i -> x.move(i, 0, 0));
    }

    @Sentence(promise = 15, says = {"TIMES onto PAPER:", "how many KNOTS."})
    void timesOntoPaper() {
        text(0, "0,0 3,1|3,0 5,2|6,6");
        tellsKnots("times 3", () -> x.times(0, 3), "0,0 3,3|3,0 5,6|6,18");
        tellsKnots("times 1", () -> x.times(0, 1), "0,0 3,1|3,0 5,2|6,6");
        tellsKnots("times 0", () -> x.times(0, 0), "0,0 5,0|6,0");
        tellsKnots("times 60", () -> x.times(0, 60), "0,0 3,60|3,0 5,120|6,360");
        tellsKnots("NOTHING times 7", () -> x.times(5, 7), "");
    }

    @Sentence(promise = 15, says = "-1;")
    void timesANumberThatCannotBe() {
        text(0, "0,0 3,1");
        refusesNumbers("times", new int[] {-1, 61, Integer.MIN_VALUE, Integer.MAX_VALUE}, n -> x.times(0, n));
    }

    @Sentence(promise = 15, says = "-2.")
    void timesOfNoStore() {
        refusesStores("times", i -> x.times(i, 2));
    }

    @Sentence(promise = 16, says = {"A place of STORE onto PAPER:", "how many KNOTS."})
    void layOntoPaper() {
        text(5, "0,0 3,1|3,0 5,2|6,6");
        tellsKnots("lay", () -> x.lay(5), "0,0 3,1|3,0 5,2|6,6");
        tellsKnots("lay of NOTHING", () -> x.lay(0), "");
        tellsKnots("lay", () -> x.lay(5), "0,0 3,1|3,0 5,2|6,6");
        x.clear(5);
        paperIs("0,0 3,1|3,0 5,2|6,6");
    }

    @Sentence(promise = 16, says = "-2.")
    void layOfNoStore() {
        refusesStores("lay", i -> x.lay(i));
    }

    // ---- put

    @Sentence(promise = 17, says = {"PAPER into STORE:", "how many KNOTS."})
    void putIntoStore() {
        text(0, "0,0 3,1|3,0 5,2|6,6");
        x.lay(0);
        for (int i = 1; i < 6; i++) {
            due("put(" + i + ")", x.put(i), 5);
            storeIs(i, "0,0 3,1|3,0 5,2|6,6");
            paperIs("0,0 3,1|3,0 5,2|6,6");
        }
        x.clear(0);
        x.lay(0);
        storeIs(1, "0,0 3,1|3,0 5,2|6,6");
        due("put of NOTHING", x.put(1), 0);
        storeIs(1, "");
    }

    @Sentence(promise = 17, says = "-2;")
    void putIntoNoStore() {
        refusesStores("put", i -> x.put(i));
    }

    private void cannotBePut(String why) {
        due("count(8), " + why, x.count(8), 0);
        refused("put, " + why, -5, () -> x.put(5));
        storeIs(5, "7,7");
    }

    @Sentence(promise = 17, says = "-5.")
    void putOfWhatStoreCannotHold() {
        x.dot(5, 420, 420);
        text(0, "0,0 7,1");
        text(1, "0,1 1,0");
        x.under(0, 1);
        cannotBePut("x and y are fractions");
        x.cut(0, 1, 420);
        cannotBePut("the first y is a fraction");
        text(2, "0,-1 1,6");
        text(3, "0,0 1,0");
        x.under(2, 3);
        paperIs("0,-1 1/7,0 1,0");
        cannotBePut("x alone is a fraction");
        x.cut(0, 0, 1);
        cannotBePut("the last y is a fraction");
        x.move(0, 5521, 0);
        cannotBePut("x beyond the greatest");
        x.move(0, -1, -5940);
        due("y at the least", x.put(4), 2);
        x.dot(1, -5940, -5940);
        x.move(1, -1, 0);
        cannotBePut("x beyond the least");
        x.move(1, 0, -1);
        cannotBePut("y beyond the least");
        x.dot(1, 5940, 5940);
        x.move(1, 0, 1);
        cannotBePut("y beyond the greatest");
        x.move(1, 0, 0);
        due("x and y at the greatest", x.put(4), 1);
    }

    @Sentence(promise = 17, says = "-5.")
    void putOfThirteenKnots() {
        x.dot(5, 420, 420);
        text(0, "0,0|1,0|2,0|3,0|4,0|5,0|6,0");
        text(1, "7,0|8,0|9,0|10,0|11,0");
        x.under(0, 1);
        due("12 KNOTS", x.put(4), 12);
        x.dot(2, 720, 0);
        x.under(4, 2);
        due("13 KNOTS on PAPER", x.count(6), 13);
        cannotBePut("13 KNOTS");
    }

    // ---- undo

    @Sentence(promise = 18, says = {
        "The latest read() (told as 0), dot() (1), clear() (2), sum() (3), under() (4), join() (5), turn() (6), "
            + "hull() (7), cut() (8), move() (9), times() (10), lay() (11), put() (12) that was not REFUSED"})
    void everyActIsTakenBackAndToldByItsNumber() {
        for (int act = 0; act <= 12; act++) {
            EdgesOfActs fresh = new EdgesOfActs();
            fresh.name = name;
            fresh.isTakenBack(act);
        }
    }

    private void isTakenBack(int act) {
        text(1, "0,0 1,1|2,2");
        x.dot(0, 1, 1);
        x.move(1, 60, 0);
        IntSupplier[] acts = {
            () -> text(0, "5,5"), () -> x.dot(1, 7, 7), () -> x.clear(1), () -> x.sum(1, 1), () -> x.under(1, 1),
            () -> x.join(1, 1), () -> x.turn(1), () -> x.hull(1), () -> x.cut(1, 0, 30), () -> x.move(1, 1, 0),
            () -> x.times(1, 2), () -> x.lay(1), () -> x.put(2)};
        String before = state();
        String stood = storesAndPaper();
        acts[act].getAsInt();
        due("act " + act + " was not REFUSED", x.status(), 0);
        due("one more can be undone", x.count(9), 4);
        due("it changed what stands", storesAndPaper().equals(stood) ? 0 : 1, 1);
        due("undo()", x.undo(), act);
        due("undo() was not REFUSED", x.status(), 0);
        dueText("the state behind undo() of " + act, state(), before);
    }

    @Sentence(promise = 18, says = "that was not REFUSED")
    void whatWasRefusedIsNotUndone() {
        x.dot(0, 0, 0);
        x.dot(6, 0, 0);
        x.turn(7);
        text(0, "x");
        due("undo()", x.undo(), 1);
        storeIs(0, "");
    }

    @Sentence(promise = 18, says = "(8 are kept)")
    void eightAreKept() {
        for (int k = 0; k < 11; k++) {
            x.dot(0, k, 0);
            due("KNOTS", x.of(0, 0), 1);
            due("how many can be undone", x.count(9), Math.min(8, k + 1));
        }
        for (int k = 0; k < 8; k++) {
            due("undo()", x.undo(), 1);
            due("x of the one ahead", x.knot(0, 0, 0), 9 - k);
        }
        refused("undo of the 9th", -4, () -> x.undo());
        due("it stands", x.knot(0, 0, 0), 2);
        x.dot(0, 50, 0);
        due("undo behind new acts", x.undo(), 1);
        due("it stands", x.knot(0, 0, 0), 2);
        refused("undo", -4, () -> x.undo());
    }

    @Sentence(promise = 18, says = {
        "is undone (all but the TAPE, FAULT, what is told of REFUSED calls is as it was; PAPER, too):", "that."})
    void undoneIsAllButTheTapeAndWhatIsTold() {
        x.dot(0, 60, 60);
        x.lay(0);
        text(0, "5,5");
        text(0, "0,0 x");
        write("7,7");
        x.dot(9, 0, 0);
        due("undo()", x.undo(), 0);
        storeIs(0, "1,1");
        due("the TAPE stays", x.count(10), 3);
        due("FAULT stays", x.fault(), 4);
        due("calls REFUSED by -2 stay told", x.count(12), 1);
        due("calls REFUSED by -6 stay told", x.count(15), 1);
        due("status() is of the latest call: undo", x.status(), 0);
        due("undo()", x.undo(), 11);
        paperIs("");
        due("undo()", x.undo(), 1);
        storeIs(0, "");
        due("what was on the TAPE", x.read(0), 1);
        storeIs(0, "7,7");
    }

    @Sentence(promise = 18, says = "PAPER, too)")
    void paperComesBack() {
        text(0, "0,0 1,1");
        text(1, "0,1 7,0");
        x.under(0, 1);
        String paper = paperText();
        x.lay(0);
        x.hull(3);
        x.undo();
        paperIs("0,0 1,1");
        x.undo();
        paperIs(paper);
    }

    @Sentence(promise = 18, says = "-4 there is none.")
    void undoOfNone() {
        refused("undo on a new object", -4, () -> x.undo());
        x.dot(0, 0, 0);
        x.undo();
        refused("undo behind the last one", -4, () -> x.undo());
        x.image(0);
        refused("an IMAGE is not undone", -4, () -> x.undo());
        storeIs(0, "");
    }

    // ---- images

    @Sentence(promise = 19, says = {"IMAGE k (0, 1) of STORE and PAPER is kept:", "KNOTS of STORE together."})
    void imageKeepsStoreAndPaper() {
        due("image(0) of NOTHING", x.image(0), 0);
        for (int i = 0; i < 6; i++) {
            text(i, "0," + i + " 1,0|2,2");
        }
        x.lay(3);
        due("image(1)", x.image(1), 18);
        due("status", x.status(), 0);
        due("what can be undone stays", x.count(9), 7);
        String kept = storesAndPaper();
        for (int i = 0; i < 6; i++) {
            x.clear(i);
        }
        x.lay(0);
        due("back(1)", x.back(1), 18);
        dueText("STORE and PAPER", storesAndPaper(), kept);
        due("back(0)", x.back(0), 0);
        paperIs("");
        storeIs(5, "");
    }

    private String storesAndPaper() {
        String all = state();
        return all.substring(0, all.lastIndexOf('\n'));
    }

    /** PAPER may have more KNOTS than a place of STORE: all of them are kept, and brought back. */
    @Sentence(promise = 19, says = "IMAGE k (0, 1) of STORE and PAPER is kept:")
    void imageKeepsAllKnotsOfPaper() {
        text(0, "0,0 1,1 2,0 3,1 4,0 5,1 6,0 7,1 8,0 9,1 10,0 11,1");
        due("22 KNOTS", x.join(0, 0), 22);
        String paper = paperText();
        due("image(0)", x.image(0), 12);
        x.lay(5);
        x.undo();
        paperIs(paper);
        x.lay(5);
        due("back(0)", x.back(0), 12);
        paperIs(paper);
        due("KNOTS of PAPER", x.count(6), 22);
    }

    @Sentence(promise = 19, says = "is kept:")
    void anImageKeptAnewTakesTheOldOnesPlace() {
        x.dot(0, 60, 60);
        x.image(0);
        x.dot(0, 120, 120);
        x.image(1);
        x.clear(0);
        due("image(0) anew", x.image(0), 0);
        due("back(1)", x.back(1), 1);
        storeIs(0, "2,2");
        due("back(0)", x.back(0), 0);
        storeIs(0, "");
    }

    @Sentence(promise = 19, says = "-1.")
    void imageThatCannotBe() {
        refusesNumbers("image", new int[] {-1, 2, Integer.MIN_VALUE, Integer.MAX_VALUE}, k -> x.image(k));
    }

    @Sentence(promise = 20, says = {"Back to IMAGE k: that number;"})
    void backToAnImage() {
        text(0, "0,0 1,1");
        x.dot(5, 60, 60);
        x.lay(0);
        x.image(1);
        x.clear(0);
        x.lay(5);
        due("back(1)", x.back(1), 3);
        due("status", x.status(), 0);
        paperIs("0,0 1,1");
        x.dot(3, 0, 0);
        x.clear(5);
        x.clear(0);
        due("it is as it was kept", x.back(1), 3);
        storeIs(3, "");
        storeIs(0, "0,0 1,1");
        write("1,1");
        x.back(1);
        due("the TAPE is no part of it", x.count(10), 3);
    }

    @Sentence(promise = 20, says = "nothing can be undone then.")
    void nothingCanBeUndoneBehindBack() {
        x.image(0);
        x.dot(0, 0, 0);
        x.dot(0, 1, 0);
        x.back(0);
        due("how many can be undone", x.count(9), 0);
        refused("undo", -4, () -> x.undo());
        x.dot(0, 2, 0);
        due("undo() of a new act", x.undo(), 1);
        refused("undo", -4, () -> x.undo());
    }

    @Sentence(promise = 20, says = "-1;")
    void backToANumberThatCannotBe() {
        x.image(0);
        x.image(1);
        refusesNumbers("back", new int[] {-1, 2, Integer.MIN_VALUE, Integer.MAX_VALUE}, k -> x.back(k));
    }

    @Sentence(promise = 20, says = "-2 (it was not kept).")
    void backToAnImageThatWasNotKept() {
        x.dot(0, 0, 0);
        refused("back(0)", -2, () -> x.back(0));
        refused("back(1)", -2, () -> x.back(1));
        x.image(1);
        refused("back(0), though 1 was kept", -2, () -> x.back(0));
        due("what can be undone stays", x.count(9), 1);
        storeIs(0, "0,0");
        due("back(1)", x.back(1), 1);
    }
}
