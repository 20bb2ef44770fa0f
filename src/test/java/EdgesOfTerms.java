/** The document's Terms, but for its TEXTS: what a FUNCTION is, what is REFUSED, what comes onto PAPER. */
final class EdgesOfTerms extends Bench {
    private static final String ZIGZAG = "0,0 1,1 2,0 3,1 4,0 5,1 6,0 7,1 8,0 9,1 10,0 11,1";

    // ---- I: places, functions, values

    @Sentence(promise = 0, says = "A PLACE is a whole number of sixtieths")
    void aPlaceIsAWholeNumberOfSixtieths() {
        reads("1/60,-1/60", "1/60,-1/60");
        reads("-59/60,7/12", "-59/60,7/12");
        reads("7/7,9/27", "1,1/3");
        bad("1/59,0", 0);
        bad("0,1/7", 2);
    }

    @Sentence(promise = 0, says = "-5,940 .. 5,940.")
    void placesEndAtTheirBounds() {
        due("dot at the greatest", x.dot(0, 5940, 5940), 1);
        storeIs(0, "99,99");
        due("dot at the least", x.dot(0, -5940, -5940), 1);
        storeIs(0, "-99,-99");
        for (int none : NO_PLACES) {
            refused("dot x " + none, -1, () -> x.dot(0, none, 0));
            refused("dot y " + none, -1, () -> x.dot(0, 0, none));
        }
        storeIs(0, "-99,-99");
    }

    @Sentence(promise = 0, says = {
        "A FUNCTION: PARTS, each a row of KNOTS (x, y: PLACES in STORE) with x rising, one on its own, too;"})
    void partsAreRowsOfKnots() {
        reads("0,0 1,1|2,2|3,3 4,4 5,0", "0,0 1,1|2,2|3,3 4,4 5,0");
        due("PARTS", x.of(0, 1), 3);
        due("KNOTS", x.of(0, 0), 6);
        due("a KNOT on its own has no line", x.knot(0, 2, 2), 0);
    }

    @Sentence(promise = 0, says = "between neighbours of a PART a straight line.")
    void aLineBetweenNeighboursOfAPart() {
        text(0, "0,0 3,1|5,7");
        due("a third of the way", x.value(0, 60, 0), 1);
        due("a third of the way", x.value(0, 60, 1), 3);
        due("none between PARTS", x.value(0, 181, 0), NOTHING);
        due("none between PARTS", x.value(0, 299, 0), NOTHING);
    }

    @Sentence(promise = 0, says = "A PART begins not ahead of where the one ahead of it ends;")
    void aPartBeginsNotAheadOfTheEndOfTheOneAhead() {
        reads("0,0 2,0|2,5 3,5", "0,0 2,0|2,5 3,5");
        bad("0,0 2,0|119/60,5 3,5", 8);
        text(0, "0,0 2,0");
        text(1, "1,5 3,5");
        due("the one that begins inside the other", x.under(0, 1), 4);
        paperIs("0,0 2,0|2,5 3,5");
    }

    @Sentence(promise = 0, says = "at like x they have not like y.")
    void atLikeXTheyHaveNotLikeY() {
        reads("0,0 1,1|1,1 2,0", "0,0 1,1 2,0");
        reads("0,0 1,1|1,61/60 2,0", "0,0 1,1|1,61/60 2,0");
        reads("0,0|0,0|0,0", "0,0");
    }

    @Sentence(promise = 0, says = "VALUE at x: the least y of all KNOTS and lines there;")
    void theValueIsTheLeast() {
        text(0, "0,0 1,3|1,1|1,2 3,2");
        due("a lone KNOT is the least", x.value(0, 60, 0), 1);
        text(0, "0,0 1,3|1,2 3,2");
        due("the right begin is the least", x.value(0, 60, 0), 2);
        text(0, "0,0 1,1|1,2 3,2");
        due("the left end is the least", x.value(0, 60, 0), 1);
    }

    @Sentence(promise = 0, says = "none, if there are none.")
    void noValueWhereThereIsNothing() {
        text(0, "0,0 1,1|2,2");
        due("ahead of all", x.value(0, -1, 0), NOTHING);
        due("in a gap", x.value(0, 61, 0), NOTHING);
        due("in a gap", x.value(0, 119, 0), NOTHING);
        due("behind all", x.value(0, 121, 0), NOTHING);
        due("of NOTHING", x.value(1, 0, 0), NOTHING);
    }

    @Sentence(promise = 0, says = "DOMAIN: all x with a VALUE.")
    void theDomainHasTheEndsAndLoneKnots() {
        text(0, "0,0 1,1|2,2");
        due("61 on the line, one alone", x.places(0, -60, 180), 62);
        text(1, "1,5 2,5");
        due("the ends of both have an x in common", x.sum(0, 1), 2);
        paperIs("1,6|2,7");
    }

    // ---- I: as few KNOTS as can be

    @Sentence(promise = 0, says = {
        "It is told by as few KNOTS as can be:",
        "a KNOT in a PART (not at an end) at which the line goes on as straight as ahead is none;"})
    void aKnotThatGoesStraightOnIsNone() {
        reads("0,0 1,1 2,2", "0,0 2,2");
        reads("0,0 1,1 2,2 3,3 4,5", "0,0 3,3 4,5");
        reads("-1,0 0,0 1,0", "-1,0 1,0");
        reads("0,0 1,1 2,121/60", "0,0 1,1 2,121/60");
        reads("0,0 1/60,1/60 1,1 99,99", "0,0 99,99");
    }

    @Sentence(promise = 0, says = "(not at an end)")
    void aKnotAtAnEndStays() {
        reads("0,0 1,1|2,2 3,3", "0,0 1,1|2,2 3,3");
        reads("0,0|1,1|2,2", "0,0|1,1|2,2");
        reads("0,0 1,1|1,2 2,3", "0,0 1,1|1,2 2,3");
    }

    @Sentence(promise = 0, says = "PARTS that meet at like x and y are one;")
    void partsThatMeetAreOne() {
        reads("0,0 1,1|1,1 2,1", "0,0 1,1 2,1");
        due("PARTS", x.of(0, 1), 1);
        reads("0,0 1,1|1,1 2,2", "0,0 2,2");
        reads("0,0|0,0 1,1|1,1", "0,0 1,1");
        reads("0,0 1,1|1,7|1,1 2,1", "0,0 1,1 2,1");
        reads("0,0 1,1|1,0|1,1 2,1", "0,0 1,1|1,0|1,1 2,1");
    }

    @Sentence(promise = 0, says = {
        "a PART of one KNOT is none, if at its x another PART's KNOT or line is as low or lower."})
    void aLoneKnotOverAnotherIsNone() {
        reads("0,3|0,2", "0,2");
        reads("0,2|0,3", "0,2");
        reads("0,2|0,2", "0,2");
        reads("0,5|0,4 1,4", "0,4 1,4");
        reads("0,4 1,4|1,5", "0,4 1,4");
        reads("0,4 1,4|1,4", "0,4 1,4");
        reads("0,9 1,9|1,5|1,4 2,4", "0,9 1,9|1,4 2,4");
        reads("0,4 1,4|1,5|1,9 2,9", "0,4 1,4|1,9 2,9");
    }

    @Sentence(promise = 0, says = "or line is as low or lower.")
    void aLoneKnotOverALineIsNone() {
        text(0, "0,0 2,2");
        x.dot(1, 60, 61);
        due("over a line", x.under(0, 1), 2);
        x.dot(1, 60, 60);
        due("on a line", x.under(0, 1), 2);
        x.dot(1, 60, 59);
        due("below a line", x.under(0, 1), 5);
    }

    @Sentence(promise = 0, says = "or line is as low or lower.")
    void aLoneKnotOverTheEndOfALineIsNone() {
        text(0, "1,1 2,2");
        for (int y : new int[] {300, 60}) {
            x.dot(1, 60, y);
            due("at the begin of a line", x.under(0, 1), 2);
            due("the other way", x.under(1, 0), 2);
        }
        x.dot(1, 120, 121);
        due("at the end of a line", x.under(0, 1), 2);
        due("the other way", x.under(1, 0), 2);
        x.dot(1, 120, 119);
        due("below the end of a line", x.under(0, 1), 3);
        paperIs("1,1 2,2|2,119/60");
        x.dot(1, 60, 59);
        due("below the begin of a line", x.under(1, 0), 3);
        paperIs("1,59/60|1,1 2,2");
    }

    @Sentence(promise = 0, says = "a PART of one KNOT is none, if at its x another PART's KNOT or line is as low or lower.")
    void aLoneKnotBelowAllOthersStays() {
        reads("0,0 1,1|1,59/60", "0,0 1,1|1,59/60");
        reads("0,59/60|0,1 1,1", "0,59/60|0,1 1,1");
        reads("0,9 1,9|1,3|1,4 2,4", "0,9 1,9|1,3|1,4 2,4");
    }

    @Sentence(promise = 0, says = "It has at most 12 KNOTS in STORE, and may be NOTHING (no KNOTS).")
    void storeHasAtMostTwelveKnots() {
        due("12", text(0, ZIGZAG), 12);
        x.dot(1, 720, 0);
        due("13 on PAPER", x.under(0, 1), 13);
        refused("put of 13", -5, () -> x.put(2));
        x.clear(0);
        due("NOTHING onto PAPER", x.lay(0), 0);
        due("NOTHING into STORE", x.put(1), 0);
        storeIs(1, "");
    }

    /** With all 12 KNOTS there is none behind the last one. */
    @Sentence(promise = 0, says = "It has at most 12 KNOTS in STORE")
    void aFullPlaceOfStoreIsToldToItsEnd() {
        text(0, ZIGZAG);
        int[] ofs = {12, 1, 11, 0, 0, 0, 660, 660, 0, 5};
        for (int what = 0; what < ofs.length; what++) {
            due("of(0, " + what + ")", x.of(0, what), ofs[what]);
        }
        int[] leasts = {0, 0, 600, 60};
        for (int what = 0; what < leasts.length; what++) {
            due("least(0, " + what + ")", x.least(0, what), leasts[what]);
        }
        due("the last line", x.slope(0, 10, 0), 1);
        due("none behind it", x.slope(0, 11, 0), NOTHING);
        due("the last KNOT", x.knot(0, 11, 0), 660);
        due("none behind it", x.knot(0, 12, 0), ABSENT);
        due("area", x.area(0, 0), 11);
        due("area", x.area(0, 1), 2);
        due("where", x.where(0, 61, 0), NOTHING);
        due("places", x.places(0, -5940, 5940), 661);
        due("value", x.value(0, 660, 0), 1);
        due("value behind all", x.value(0, 661, 0), NOTHING);
        due("limit", x.limit(0, 660, 0), 1);
        due("limit", x.limit(0, 660, 2), NOTHING);
        due("limit", x.limit(0, 0, 0), NOTHING);
        due("limit behind all", x.limit(0, 661, 0), NOTHING);
        due("limit behind all", x.limit(0, 661, 2), NOTHING);
        due("split", x.split(0, 0, 1320, 0), 2);
        due("split", x.split(0, 0, 1320, 2), 11);
        due("compare", x.compare(0, 0), 0);
        due("turn", x.turn(0), -4);
        x.cut(0, 0, 660);
        paperIs(ZIGZAG);
        x.sum(0, 0);
        paperIs(ZIGZAG.replace(",1", ",2"));
        x.under(0, 0);
        paperIs(ZIGZAG);
        x.hull(0);
        paperIs("0,0 10,0 11,1");
    }

    @Sentence(promise = 0, says = "STORE 0 .. 5: NOTHING at first.")
    void storeIsNothingAtFirst() {
        for (int i = 0; i < 6; i++) {
            due("KNOTS of STORE " + i, x.of(i, 0), 0);
            due("clear(" + i + ")", x.clear(i), 0);
        }
        refused("clear(6)", -2, () -> x.clear(6));
        refused("clear(-1)", -2, () -> x.clear(-1));
    }

    @Sentence(promise = 0, says = "PAPER: a FUNCTION of any fractions, of any KNOTS; NOTHING at first.")
    void paperIsOfAnyFractionsAndKnots() {
        due("KNOTS of PAPER", x.count(6), 0);
        due("NOTHING can be put", x.put(0), 0);
        text(0, "-99,-99 0,0 99,-99");
        x.join(0, 0);
        paperIs("-198,-198 -99,-99 0,-198 99,-99 198,-198");
        text(0, "0,0|2,0|4,0|6,0|8,0|10,0");
        text(1, "0,0|20,0|40,0");
        due("18 KNOTS", x.join(0, 1), 18);
        due("18 PARTS", x.count(7), 18);
    }

    // ---- I: what is REFUSED

    @Sentence(promise = 0, says = "REFUSED by: -1 a number that can't be;")
    void refusedByANumberThatCannotBe() {
        refused("dot", -1, () -> x.dot(0, 5941, 0));
        refused("cut", -1, () -> x.cut(0, 1, 0));
        refused("move", -1, () -> x.move(0, 0, -5941));
        refused("times", -1, () -> x.times(0, 61));
        refused("image", -1, () -> x.image(2));
        refused("back", -1, () -> x.back(-1));
    }

    @Sentence(promise = 0, says = "-2 there is no such place of STORE, IMAGE;")
    void refusedByNoSuchPlace() {
        refused("clear", -2, () -> x.clear(6));
        refused("lay", -2, () -> x.lay(-1));
        refused("back to an IMAGE that was not kept", -2, () -> x.back(0));
    }

    @Sentence(promise = 0, says = "-4 it can't be by what stands;")
    void refusedByWhatStands() {
        refused("undo", -4, () -> x.undo());
        text(0, "0,0 1,0");
        refused("turn", -4, () -> x.turn(0));
    }

    @Sentence(promise = 0, says = "-5 it can't be in STORE (KNOTS that are no PLACES, more than 12);")
    void refusedByWhatStoreCanHold() {
        text(0, "0,0 1,1/60");
        x.cut(0, 1, 60);
        refused("a fraction", -5, () -> x.put(1));
        x.move(0, 5881, 0);
        refused("x beyond", -5, () -> x.put(1));
        x.move(0, 0, 5940);
        refused("y beyond", -5, () -> x.put(1));
        x.move(0, 5880, 5939);
        due("both at the bound", x.put(1), 2);
        storeIs(1, "98,5939/60 99,99");
    }

    @Sentence(promise = 0, says = "-6 a TEXT that can't be read.")
    void refusedByItsText() {
        write("0,0 1");
        refused("read", -6, () -> x.read(0));
    }

    @Sentence(promise = 0, says = "The first of these in that order.")
    void theFirstReasonIsTold() {
        refused("dot: -1 ahead of -2", -1, () -> x.dot(6, 5941, 0));
        refused("cut: -1 ahead of -2", -1, () -> x.cut(6, 1, 0));
        refused("move: -1 ahead of -2", -1, () -> x.move(-1, 0, 5941));
        refused("times: -1 ahead of -2", -1, () -> x.times(6, -1));
        text(0, "0,0 1,0");
        refused("turn: -2 ahead of -4", -2, () -> x.turn(6));
        text(0, "0,0 7,1");
        x.cut(0, 1, 2);
        refused("put: -2 ahead of -5", -2, () -> x.put(6));
        write("?");
        refused("read: -2 ahead of -6", -2, () -> x.read(6));
        refused("sum: the second one", -2, () -> x.sum(0, 6));
    }

    /** A few of everything stands; each way to be REFUSED is gone, and all is as it was. */
    @Sentence(promise = 0, says = "What is REFUSED changes nothing but what is told of it.")
    void whatIsRefusedChangesNothing() {
        text(0, "0,0 1,0|2,1/2");
        x.image(0);
        text(1, "0,0 7,1");
        x.cut(1, 1, 2);
        write("0,0 1,1");
        String before = state();
        refusedAsItWas(before);
        due("state behind all", state().equals(before) ? 1 : 0, 1);
        due("the latest act is still the cut", x.undo(), 8);
        paperIs("");
        due("ahead of it the read", x.undo(), 0);
        due("ahead of it the other read", x.undo(), 0);
        storeIs(0, "");
        due("the IMAGE is as it was kept", x.back(0), 3);
        storeIs(0, "0,0 1,0|2,1/2");
        refused("IMAGE 1 was not kept", -2, () -> x.back(1));
    }

    private void refusedAsItWas(String before) {
        refused("dot", -1, () -> x.dot(0, 5941, 0));
        refused("dot", -2, () -> x.dot(6, 0, 0));
        refused("clear", -2, () -> x.clear(6));
        refused("sum", -2, () -> x.sum(0, 6));
        refused("under", -2, () -> x.under(6, 0));
        refused("join", -2, () -> x.join(0, 6));
        refused("turn", -2, () -> x.turn(6));
        refused("turn", -4, () -> x.turn(0));
        dueText("the state", state(), before);
        refused("hull", -2, () -> x.hull(6));
        refused("cut", -1, () -> x.cut(0, 2, 1));
        refused("cut", -2, () -> x.cut(6, 1, 1));
        refused("move", -1, () -> x.move(0, 5941, 0));
        refused("move", -2, () -> x.move(6, 0, 0));
        refused("times", -1, () -> x.times(0, 61));
        refused("times", -2, () -> x.times(6, 0));
        refused("lay", -2, () -> x.lay(6));
        refused("put", -2, () -> x.put(6));
        refused("put", -5, () -> x.put(0));
        refused("image", -1, () -> x.image(2));
        refused("back", -1, () -> x.back(2));
        refused("back", -2, () -> x.back(1));
        refused("read", -2, () -> x.read(6));
    }

    // ---- II: SUM

    @Sentence(promise = 0, says = "Onto PAPER (in place of what was):")
    void whatWasOnPaperIsGone() {
        text(0, "0,0 1,1|2,0|3,3");
        text(1, "0,1");
        x.lay(0);
        due("fewer KNOTS than ahead", x.lay(1), 1);
        paperIs("0,1");
        x.lay(0);
        x.sum(0, 1);
        paperIs("0,1");
        x.sum(1, 5);
        paperIs("");
        x.under(1, 5);
        paperIs("0,1");
        x.join(1, 1);
        paperIs("0,2");
        x.hull(5);
        paperIs("");
    }

    @Sentence(promise = 0, says = "SUM of two: at each x of both DOMAINS their VALUES together, as a FUNCTION:")
    void aSumIsOnBothDomains() {
        text(0, "0,0 2,2|3,1 5,1");
        text(1, "1,1 4,4");
        due("sum", x.sum(0, 1), 4);
        paperIs("1,2 2,4|3,4 4,5");
        text(1, "121/60,0 179/60,0|301/60,0");
        due("no x in common", x.sum(0, 1), 0);
        text(1, "2,5 3,5");
        due("the ends alone in common", x.sum(0, 1), 2);
        paperIs("2,7|3,6");
    }

    @Sentence(promise = 0, says = "of its PARTS each is where both are straight or turn without a jump;")
    void aSumGoesOnWhereBothTurn() {
        text(0, "0,0 1,1 3,1");
        text(1, "0,0 2,0 3,1");
        due("turns of both", x.sum(0, 1), 4);
        paperIs("0,0 1,1 2,1 3,2");
        due("one PART", x.count(7), 1);
        text(1, "0,0 1,-1 3,-1");
        due("turns that make up for each other", x.sum(0, 1), 2);
        paperIs("0,0 3,0");
    }

    @Sentence(promise = 0, says = "where one jumps, so it does.")
    void aSumJumpsWhereOneJumps() {
        text(0, "0,0 1,0|1,1 2,1");
        text(1, "0,0 2,2");
        due("a jump up", x.sum(0, 1), 4);
        paperIs("0,0 1,1|1,2 2,3");
        text(0, "0,1 1,1|1,0 2,0");
        due("a jump down", x.sum(1, 0), 4);
        paperIs("0,1 1,2|1,1 2,2");
        text(0, "0,1 1,1|1,0|1,1 2,1");
        due("a KNOT below", x.sum(1, 0), 5);
        paperIs("0,1 1,2|1,1|1,2 2,3");
    }

    @Sentence(promise = 0, says = {
        "(As lines: of each line or lone KNOT of the one and of the other that have an x in common, "
            + "what lies over their common x; then UNDER all of these.)"})
    void aSumAsLines() {
        text(0, "0,0 1,2|1,1 2,1");
        text(1, "0,0 1,1|1,2 2,2");
        due("the VALUES' own sum is below both ends", x.sum(0, 1), 5);
        paperIs("0,0 1,3|1,2|1,3 2,3");
        text(1, "1,5");
        due("a lone KNOT", x.sum(0, 1), 1);
        paperIs("1,6");
        text(0, "1,-1");
        due("two lone KNOTS", x.sum(0, 1), 1);
        paperIs("1,4");
        text(0, "0,0 1,1");
        text(1, "1,0 2,0");
        due("lines whose ends have an x in common", x.sum(0, 1), 1);
        paperIs("1,1");
    }

    // ---- II: UNDER

    @Sentence(promise = 0, says = "UNDER: the least of several: at each x of any DOMAIN the least VALUE;")
    void underIsOnAnyDomain() {
        text(0, "0,0 1,0");
        text(1, "2,5 3,5|4,4");
        due("each on its own", x.under(0, 1), 5);
        paperIs("0,0 1,0|2,5 3,5|4,4");
        due("with NOTHING", x.under(0, 5), 2);
        paperIs("0,0 1,0");
        due("NOTHING with it", x.under(5, 1), 3);
        due("NOTHING with NOTHING", x.under(5, 4), 0);
        due("with itself", x.under(1, 1), 3);
    }

    @Sentence(promise = 0, says = "its lines are parts of theirs;")
    void linesOfUnderArePartsOfTheirs() {
        text(0, "0,0 4,4");
        text(1, "0,4 4,0");
        x.under(0, 1);
        paperIs("0,0 2,2 4,0");
        text(1, "0,1 7,0");
        x.under(0, 1);
        paperIs("0,0 7/8,7/8 7,0");
        text(1, "1,0 2,0");
        x.under(0, 1);
        paperIs("0,0 1,1|1,0 2,0|2,2 4,4");
        text(1, "1,1 2,2");
        x.under(0, 1);
        paperIs("0,0 4,4");
    }

    @Sentence(promise = 0, says = "its lines are parts of theirs;")
    void linesThatMeetWhereOneEnds() {
        text(0, "0,0 2,2");
        text(1, "0,4 2,2");
        x.under(0, 1);
        paperIs("0,0 2,2");
        text(1, "0,4 2,2 3,0");
        x.under(0, 1);
        paperIs("0,0 2,2 3,0");
        text(0, "0,0 2,2 3,3");
        x.under(0, 1);
        paperIs("0,0 2,2 3,0");
        text(1, "0,0 1,-1 3,3");
        x.under(0, 1);
        paperIs("0,0 1,-1 3,3");
        text(1, "0,0 1,5 3,3");
        x.under(0, 1);
        paperIs("0,0 3,3");
    }

    @Sentence(promise = 0, says = "where at an x what comes from the left ends higher than the VALUE,")
    void theHigherLeftEndStays() {
        text(0, "0,5 1,5");
        text(1, "1,0 2,0");
        x.under(0, 1);
        paperIs("0,5 1,5|1,0 2,0");
        text(1, "1,0");
        x.under(0, 1);
        paperIs("0,5 1,5|1,0");
        text(1, "1,5 2,4");
        x.under(0, 1);
        paperIs("0,5 1,5 2,4");
    }

    @Sentence(promise = 0, says = {"or what goes on to the right begins higher,", "that end stays as a KNOT (a jump)."})
    void theHigherRightBeginStays() {
        text(0, "0,0 1,0");
        text(1, "1,5 2,5");
        x.under(0, 1);
        paperIs("0,0 1,0|1,5 2,5");
        due("a jump", x.put(2), 4);
        due("a jump", x.of(2, 3), 1);
        text(0, "1,0");
        x.under(0, 1);
        paperIs("1,0|1,5 2,5");
        text(0, "0,0 2,2");
        x.under(0, 1);
        paperIs("0,0 2,2");
        text(1, "0,0 1,-2");
        x.under(0, 1);
        paperIs("0,0 1,-2|1,1 2,2");
    }

    @Sentence(promise = 0, says = "that end stays as a KNOT (a jump).")
    void bothHigherEndsStay() {
        text(0, "0,0 2,2");
        x.dot(1, 60, 0);
        x.under(0, 1);
        paperIs("0,0 1,1|1,0|1,1 2,2");
        x.put(2);
        due("two jumps", x.of(2, 3), 2);
    }

    // ---- II: JOINED

    @Sentence(promise = 0, says = {
        "JOINED: at x the least of VALUE of the one at u and of the other at x less u, of all u"})
    void joinedIsTheLeastOfAllSplits() {
        text(0, "0,0 1,1 2,0");
        due("with itself", x.join(0, 0), 5);
        paperIs("0,0 1,1 2,0 3,1 4,0");
        text(1, "3,-1/2");
        due("with a KNOT: moved", x.join(0, 1), 3);
        paperIs("3,-1/2 4,1/2 5,-1/2");
        due("with NOTHING", x.join(0, 5), 0);
        due("NOTHING with it", x.join(5, 0), 0);
        text(0, "0,0|1,0");
        text(1, "0,0|3,0");
        x.join(0, 1);
        paperIs("0,0|1,0|3,0|4,0");
    }

    @Sentence(promise = 0, says = {
        "(as lines: of each line or lone KNOT of the one and of the other: what they make together by rising slopes, "
            + "from the sum of their left ends on; then UNDER all of these)."})
    void joinedByRisingSlopes() {
        text(0, "0,0 1,1");
        text(1, "5,1 6,0");
        x.join(0, 1);
        paperIs("5,1 6,0 7,1");
        x.join(1, 0);
        paperIs("5,1 6,0 7,1");
        text(1, "0,0 2,2");
        x.join(0, 1);
        paperIs("0,0 3,3");
        text(1, "0,0 1,0|1,-1 2,-1");
        x.join(0, 1);
        paperIs("0,0 1,0|1,-1 2,-1 3,0");
    }

    private void joins(String f, String g, String want) {
        EdgesOfTerms fresh = new EdgesOfTerms();
        fresh.name = name;
        fresh.text(0, f);
        fresh.text(1, g);
        fresh.x.join(0, 1);
        fresh.paperIs(want);
        fresh.x.join(1, 0);
        fresh.paperIs(want);
    }

    /** It is the slope that counts, neither how far a line goes nor how much it rises. */
    @Sentence(promise = 0, says = "what they make together by rising slopes")
    void joinedByRisingSlopesOfLongAndShortLines() {
        joins("0,0 4,2", "0,0 1,1", "0,0 4,2 5,3");
        joins("0,0 4,-2", "0,0 1,-1", "0,0 1,-1 5,-3");
        joins("0,0 1/60,1", "0,0 1,1", "0,0 1,1 61/60,2");
        joins("0,0 1/60,-1", "0,0 1,1", "0,0 1/60,-1 61/60,0");
        joins("0,0 1/60,1/60", "0,0 1,-1", "0,0 1,-1 61/60,-59/60");
        joins("0,0 9,1 10,3", "0,0 5,2", "0,0 9,1 14,3 15,5");
    }

    @Sentence(promise = 0, says = "then UNDER all of these).")
    void joinedOfTwelveKnotsEach() {
        StringBuilder want = new StringBuilder();
        for (int k = 0; k <= 20; k++) {
            want.append(k).append(',').append(k % 2).append(' ');
        }
        joins(ZIGZAG, ZIGZAG, want + "22,2");
        joins(ZIGZAG.replace(' ', '|'), "0,0|20,0", joinedDots());
    }

    private static String joinedDots() {
        String dots = ZIGZAG.replace(' ', '|');
        StringBuilder moved = new StringBuilder(dots);
        for (String dot : dots.split("\\|")) {
            String[] xy = dot.split(",");
            moved.append('|').append(20 + Integer.parseInt(xy[0])).append(',').append(xy[1]);
        }
        return moved.toString();
    }

    /** Of lines that go below one another the one that does so first goes on, of these the least steep. */
    @Sentence(promise = 0, says = "then UNDER all of these).")
    void joinedLinesThatCrossInTurn() {
        joins("0,0|10,0|20,0", "0,1 6,1|10,-3 16,3|20,-6 26,6",
                "0,1 6,1|10,-3 14,1 16,1|20,-6 23,0 24,1 26,1|30,-6 33,0 36,3|40,-6 46,6");
        joins("0,0|10,0|20,0", "0,-6 6,6|10,-3 16,3|20,1 26,1",
                "0,-6 6,6|10,-6 13,0 16,3|20,-6 23,0 24,1 26,1|30,-3 34,1 36,1|40,1 46,1");
        joins("0,4|1,0|3,-3", "0,0 4,4 8,0", "0,4 1,5|1,0 3,2|3,-3 7,1 11,-3");
    }

    // ---- II: TURNED

    @Sentence(promise = 0, says = "TURNED: x and y exchanged:")
    void turnedExchangesXAndY() {
        text(0, "0,5 1,7 4,8|5,9");
        x.turn(0);
        paperIs("5,0 7,1 8,4|9,5");
        text(0, "0,9|1,8 2,5 3,4");
        x.turn(0);
        paperIs("4,3 5,2 8,1|9,0");
        x.dot(0, 60, 30);
        x.turn(0);
        paperIs("1/2,1");
        due("NOTHING", x.turn(5), 0);
    }

    private void turnsOnly(String text, int knots) {
        text(0, text);
        due("turn of " + text, x.turn(0), knots);
        due("of(0, 8) of " + text, x.of(0, 8), knots < 0 ? 0 : 1);
    }

    @Sentence(promise = 0, says = "only of one whose y all rise along (or all fall along) as x rises, strictly, in PARTS")
    void turnedInParts() {
        turnsOnly("0,0 1,1/60 2,2", 3);
        turnsOnly("0,0 1,-1/60 2,-2", 3);
        turnsOnly("0,0 1,0", -4);
        turnsOnly("0,0 1,1 2,1", -4);
        turnsOnly("0,0 1,0 2,1", -4);
        turnsOnly("0,0 1,-1 2,-1", -4);
        turnsOnly("0,0 1,1 2,0", -4);
        turnsOnly("0,1 1,0 2,1", -4);
    }

    @Sentence(promise = 0, says = "and from one PART to the next")
    void turnedFromOnePartToTheNext() {
        turnsOnly("0,0 1,1|2,61/60 3,2", 4);
        turnsOnly("0,0 1,-1|2,-61/60 3,-2", 4);
        turnsOnly("0,0 1,1|2,1 3,2", -4);
        turnsOnly("0,0 1,-1|2,-1 3,-2", -4);
        turnsOnly("0,0 1,1|2,0", -4);
        turnsOnly("0,1 1,0|2,2 3,1", -4);
        turnsOnly("0,0|1,0", -4);
        turnsOnly("0,0|1,1", 2);
    }

    @Sentence(promise = 0, says = "(a jump between like x can't be).")
    void turnedHasNoJumps() {
        turnsOnly("0,0 1,1|1,2 2,3", -4);
        turnsOnly("0,3 1,2|1,1 2,0", -4);
        turnsOnly("0,0 1,1|61/60,2 2,3", 4);
    }

    // ---- II: HULL, CUT, MOVED, TIMES

    @Sentence(promise = 0, says = "HULL: the greatest convex FUNCTION not above it,")
    void aHullIsTheGreatestConvexBelow() {
        text(0, "0,0 1,5 2,1 3,5 4,0");
        x.hull(0);
        paperIs("0,0 4,0");
        text(0, "0,4 1,1 2,0 3,0 5,7");
        x.hull(0);
        paperIs("0,4 1,1 2,0 3,0 5,7");
        text(0, "0,2 1,1 2,1 3,-1");
        x.hull(0);
        paperIs("0,2 3,-1");
        text(0, "0,4 2,4|2,-1|2,4 3,4");
        x.hull(0);
        paperIs("0,4 2,-1 3,4");
        text(0, "-3,5 -1,1 0,0 2,-1 5,-1 6,4");
        x.hull(0);
        paperIs("-3,5 -1,1 0,0 2,-1 5,-1 6,4");
        text(0, "-9,9 -8,1 -7,5|-3,-3 1,-2 2,-4|6,-4 7,4 9,0");
        x.hull(0);
        paperIs("-9,9 -8,1 -3,-3 2,-4 6,-4 9,0");
        text(0, "0,0 1,1 2,3");
        x.hull(0);
        paperIs("0,0 1,1 2,3");
        text(0, "0,0 1,-1 2,-3");
        x.hull(0);
        paperIs("0,0 2,-3");
        text(0, "0,1 1/60,0 2,0 121/60,1");
        x.hull(0);
        paperIs("0,1 1/60,0 2,0 121/60,1");
    }

    @Sentence(promise = 0, says = "on all from its least to its greatest x.")
    void aHullGoesFromTheLeastToTheGreatestX() {
        text(0, "0,1|4,3");
        x.hull(0);
        paperIs("0,1 4,3");
        text(0, "0,-1|0,3 2,3|2,-5");
        x.hull(0);
        paperIs("0,-1 2,-5");
        text(0, "0,3 2,3|3,7");
        x.hull(0);
        paperIs("0,3 2,3 3,7");
        x.dot(0, 60, -60);
        x.hull(0);
        paperIs("1,-1");
    }

    @Sentence(promise = 0, says = "CUT: only x from one PLACE to another one (both, too):")
    void aCutHasBothItsEnds() {
        text(0, "0,0 1,1|1,2 2,2|3,3");
        x.cut(0, 60, 120);
        paperIs("1,1|1,2 2,2");
        x.cut(0, 120, 180);
        paperIs("2,2|3,3");
        x.cut(0, 121, 179);
        paperIs("");
        x.cut(0, 120, 120);
        paperIs("2,2");
        x.cut(0, -5940, 5940);
        paperIs("0,0 1,1|1,2 2,2|3,3");
        x.cut(0, -60, 60);
        paperIs("0,0 1,1");
    }

    @Sentence(promise = 0, says = "lines are cut there.")
    void linesAreCut() {
        text(0, "0,0 3,1 4,5");
        x.cut(0, 60, 210);
        paperIs("1,1/3 3,1 7/2,3");
        x.cut(0, 61, 61);
        paperIs("61/60,61/180");
    }

    @Sentence(promise = 0, says = "MOVED: x and y more by PLACES.")
    void movedByPlaces() {
        text(0, "0,0 1,1|98,99");
        x.move(0, 1, -1);
        paperIs("1/60,-1/60 61/60,59/60|5881/60,5939/60");
        x.move(0, 5940, 5940);
        paperIs("99,99 100,100|197,198");
        x.move(0, -5940, -5940);
        paperIs("-99,-99 -98,-98|-1,0");
        x.move(0, 0, 0);
        paperIs("0,0 1,1|98,99");
    }

    @Sentence(promise = 0, says = "TIMES: y times a whole number 0 .. 60")
    void timesAWholeNumber() {
        text(0, "0,1/60 1,-99|2,1");
        x.times(0, 60);
        paperIs("0,1 1,-5940|2,60");
        x.times(0, 1);
        paperIs("0,1/60 1,-99|2,1");
        refused("61", -1, () -> x.times(0, 61));
        refused("-1", -1, () -> x.times(0, -1));
    }

    @Sentence(promise = 0, says = "(0: 0 on the DOMAIN).")
    void timesZero() {
        text(0, "0,1 1,5|1,3|1,4 2,3|3,-7|4,1 5,2");
        due("times(0, 0)", x.times(0, 0), 5);
        paperIs("0,0 2,0|3,0|4,0 5,0");
        due("of NOTHING", x.times(5, 0), 0);
    }

    // ---- III

    @Sentence(promise = 0, says = "Fractions are told by an upper number and a lower one above 0, in lowest terms.")
    void fractionsInLowestTerms() {
        text(0, "0,0 3,-2");
        due("upper", x.value(0, 60, 0), -2);
        due("lower", x.value(0, 60, 1), 3);
        due("0 by 1", x.value(0, 0, 0), 0);
        due("0 by 1", x.value(0, 0, 1), 1);
        due("of a SLOPE", x.slope(0, 0, 0), -2);
        due("of a SLOPE", x.slope(0, 0, 1), 3);
        due("a whole number", x.value(0, 180, 1), 1);
    }

    @Sentence(promise = 0, says = "SLOPES: of all lines of a FUNCTION from the left on.")
    void slopesFromTheLeft() {
        text(0, "0,0 1,1|2,2|3,3 5,3 6,1");
        long[] slopes = {1, 0, -2};
        for (int k = 0; k < slopes.length; k++) {
            due("slope " + k, x.slope(0, k, 0), slopes[k]);
        }
        due("no 4th line", x.slope(0, 3, 0), NOTHING);
    }

    private void convex(String text, int due) {
        text(0, text);
        due("CONVEX of " + text, x.of(0, 4), due);
    }

    @Sentence(promise = 0, says = "CONVEX: one PART, SLOPES rising.")
    void convexIsOnePartOfRisingSlopes() {
        convex("0,0 1,-1 2,-1 3,5", 1);
        convex("0,0 1,1", 1);
        convex("0,0", 1);
        convex("0,0 1,1 2,1", 0);
        convex("0,0 1,0|2,0 3,1", 0);
        convex("0,0 1,0|1,1 2,5", 0);
        convex("0,0|1,0", 0);
        due("NOTHING has no PART", x.of(5, 4), 0);
    }

    @Sentence(promise = 0, says = "AREA: between 0 and the lines, below 0 less, together.")
    void areaIsLessBelow() {
        text(0, "0,0 2,2|3,7|4,-1 5,-1");
        due("2 less 1", x.area(0, 0), 1);
        text(0, "0,-1 2,1");
        due("as much below as over", x.area(0, 0), 0);
        due("as much below as over", x.area(0, 1), 1);
        text(0, "0,-1 1/60,-1");
        due("below", x.area(0, 0), -1);
        due("below", x.area(0, 1), 60);
    }

    // ---- the constants

    @Sentence(promise = 0, says = "The constants: `NONE = -1`: There is none.")
    void none() {
        due("NONE", LeastSums.NONE, -1);
        due("where it is told", x.end(1), LeastSums.NONE);
    }

    @Sentence(promise = 0, says = "`NOTHING = Long.MIN_VALUE`: Told where any long may be one: there is none.")
    void nothing() {
        due("NOTHING", LeastSums.NOTHING, Long.MIN_VALUE);
        due("where it is told", x.value(0, 0, 0), LeastSums.NOTHING);
    }
}
