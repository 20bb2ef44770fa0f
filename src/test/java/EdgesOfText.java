/** TEXTS on the TAPE, FAULT, and the promises 1 to 5 that take a TAPE and read it. */
final class EdgesOfText extends Bench {
    private static final String TWELVE = "0,0 1,1 2,0 3,1 4,0 5,1 6,0 7,1 8,0 9,1 10,0 11,1";
    private static final int FULL = 400;

    // ---- the TEXT

    @Sentence(promise = 0, says = "TEXT on the TAPE (400 bytes at most):")
    void aTextOfAllTheTape() {
        good(0, "0,0" + " ".repeat(FULL - 6) + "1,1", 2);
        storeIs(0, "0,0 1,1");
        bad("0,0" + " ".repeat(FULL - 6) + "1,x", FULL - 1);
        good(0, "0".repeat(FULL - 2) + ",0", 1);
    }

    @Sentence(promise = 0, says = "PART {\"|\" PART};")
    void partsAreSetApartByBars() {
        reads("0,0|1,0|2,0 3,0", "0,0|1,0|2,0 3,0");
        bad("|0,0", 0);
        bad("0,0||1,0", 4);
        bad("0,0|", 4);
        bad("0,0| ", 5);
    }

    @Sentence(promise = 0, says = "PART: KNOT {KNOT};")
    void knotsFollowOneAnother() {
        reads("0,0 1,1 2,0", "0,0 1,1 2,0");
        reads("-1,0-0,1", "-1,0 0,1");
        bad("0,01,1", 4);
        bad("0,0,1,1", 3);
    }

    @Sentence(promise = 0, says = "KNOT: FRACTION \",\" FRACTION;")
    void aKnotIsTwoFractions() {
        bad("0 1", 2);
        bad("0", 1);
        bad(",0", 0);
        bad("0,,0", 2);
        bad("0;0", 1);
        bad("0|0", 1);
    }

    @Sentence(promise = 0, says = "FRACTION: [\"-\"] NUMBER [\"/\" NUMBER].")
    void fractions() {
        reads("-1/2,-3", "-1/2,-3");
        reads("-0,-0/5", "0,0");
        bad("--1,0", 1);
        bad("+1,0", 0);
        bad("1-,0", 1);
        bad("1/-2,0", 2);
        bad("1/2/3,0", 3);
        bad("/2,0", 0);
        bad("-/2,0", 1);
        bad("1/,0", 2);
        bad("1.5,0", 1);
    }

    @Sentence(promise = 0, says = "NUMBERS: digits, as long as they go, 0 .. 9,999,")
    void numbersAboveTheStroke() {
        bad("9999,0", 0);
        bad("-9999,0", 0);
        bad("-10000,0", 1);
        bad("0,-10000", 3);
        reads("0000000099,00000000000", "99,0");
        bad("0000010000,0", 0);
        bad("0,99999999999999999999999999999999999999", 2);
        bad("0,4294967296", 2);
        bad("0,18446744073709551616", 2);
        reads("5940/60,0", "99,0");
    }

    @Sentence(promise = 0, says = "behind / 1 .. 60;")
    void numbersBehindTheStroke() {
        reads("0/1,0/60", "0,0");
        reads("1/60,0", "1/60,0");
        bad("0/0,0", 2);
        bad("0/61,0", 2);
        bad("0/000,0", 2);
        reads("0/0060,0", "0,0");
        bad("0/4294967297,0", 2);
    }

    @Sentence(promise = 0, says = "blanks (32) between them count for nothing.")
    void blanksCountForNothing() {
        reads("   -  1  /  2  ,  -  4  |  -  1  /  2  ,  -  3   1  ,  5   ", "-1/2,-4|-1/2,-3 1,5");
        reads("  0 , 0  ", "0,0");
        reads("0,0/5 | 1/2 , 1/2 ", "0,0|1/2,1/2");
        reads("0,1/2  1,0/3  ", "0,1/2 1,0");
        bad("1 2,0", 2);
        bad("0,1/6 0", 6);
    }

    @Sentence(promise = 0, says = "blanks (32)")
    void otherWhiteBytesAreNoBlanks() {
        for (char sign : new char[] {0, 9, 10, 13, 31, 33, 127, 160, 255}) {
            bad("0,0" + sign + "1,1", 3);
            bad(sign + "0,0", 0);
            bad("0" + sign + ",0", 1);
        }
    }

    // ---- FAULT

    @Sentence(promise = 0, says = "FAULT: the place of the first byte (of a NUMBER: its first) that can't stand there,")
    void aByteThatCannotStandThere() {
        bad("x", 0);
        bad("0,0 x", 4);
        bad("0,0x1,1", 3);
        bad("0,0 " + (char) 233, 4);
        bad("0,0 1,1 , 2", 8);
        bad("0,?x", 2);
        bad("0,0|-|", 5);
    }

    @Sentence(promise = 0, says = "(of a NUMBER: its first)")
    void aNumberThatCannotStandThere() {
        bad("0,0 1 234,0", 6);
        bad("0,1/2 3 456", 8);
        bad("0 1234", 2);
        bad("0,0 1 99999", 6);
    }

    @Sentence(promise = 0, says = "of a NUMBER too great or small,")
    void aNumberTooGreatOrSmall() {
        bad("10000,0", 0);
        bad(" 10000,0", 1);
        bad("- 10000,0", 2);
        bad("0,0 1,1/ 61", 9);
        bad("0,0 1,1/ 0", 9);
        bad("100/61,0", 4);
        bad("1/7,10000", 0);
    }

    @Sentence(promise = 0, says = {
        "or of the first byte of a FRACTION that is no PLACE (behind it has been read whole),"})
    void aFractionThatIsNoPlace() {
        bad("1/7,0", 0);
        bad("-1/7,0", 0);
        bad(" - 1/7,0", 1);
        bad("0,1/7", 2);
        bad("0, -1/59", 3);
        bad("100,0", 0);
        bad("-100,0", 0);
        bad("0,5941/60", 2);
        bad("0,-5941/60", 2);
        reads("0,5940/60", "0,99");
        reads("0,-5940/60", "0,-99");
        reads("100/2,0", "50,0");
    }

    @Sentence(promise = 0, says = "(behind it has been read whole)")
    void aFractionIsJudgedWhenItHasBeenReadWhole() {
        bad("100/x", 4);
        bad("100/", 4);
        bad("100/0", 4);
        bad("100 / ", 6);
        bad("100", 0);
        bad("100x", 0);
        bad("100 ", 0);
        bad("1/7x", 0);
        bad("1/7", 0);
    }

    @Sentence(promise = 0, says = "of an x that does not rise in its PART,")
    void anXThatDoesNotRise() {
        bad("0,0 0,1", 4);
        bad("0,0 -1/60,1", 4);
        bad("1,0  59/60,0", 5);
        bad("0,0 1,0 1,0", 8);
        bad("0,0 1,0|1,5 1,6", 12);
        bad("0,0 0", 4);
        bad("0,0 0x", 4);
        bad("0,0 -0/7,9", 4);
        reads("0,0 1/60,0", "0,0 1/60,0");
        reads("-2,0 -1,0", "-2,0 -1,0");
    }

    @Sentence(promise = 0, says = "that lies ahead of the end of the PART ahead,")
    void anXAheadOfTheEndOfThePartAhead() {
        bad("0,0 2,0|1,5", 8);
        bad("0,0 2,0|119/60,5", 8);
        bad("0,0 2,0| -3,5", 9);
        bad("0,0|-1/60,0", 4);
        bad("0,0 5,0|5,1|4,0", 12);
        bad("0,0 2,0|1", 8);
        reads("0,0 2,0|2,5 3,0", "0,0 2,0|2,5 3,0");
        reads("0,0 2,0|121/60,5", "0,0 2,0|121/60,5");
    }

    @Sentence(promise = 0, says = "of a 13th KNOT (its x);")
    void aThirteenthKnot() {
        good(0, TWELVE, 12);
        bad(TWELVE + " 12,0", TWELVE.length() + 1);
        bad(TWELVE + "|12,0", TWELVE.length() + 1);
        bad(TWELVE + " |  12,0", TWELVE.length() + 4);
        bad(TWELVE + "  -12/61", TWELVE.length() + 2);
        bad(TWELVE + " 12/61,0", TWELVE.length() + 1);
        bad(TWELVE + " 0,0", TWELVE.length() + 1);
        bad(TWELVE + "|100000,0", TWELVE.length() + 1);
        bad("0,0|".repeat(12) + "5,0", 48);
    }

    @Sentence(promise = 0, says = "the TAPE's length, if it ends too soon.")
    void aTapeThatEndsTooSoon() {
        bad("", 0);
        bad("   ", 3);
        bad("-", 1);
        bad("0", 1);
        bad("0 ", 2);
        bad("0,", 2);
        bad("0,-  ", 5);
        bad("0,1/", 4);
        bad("0,0|", 4);
        bad("0,0 1", 5);
        bad("0,0 -", 5);
        bad(TWELVE + "|", TWELVE.length() + 1);
        bad(" ".repeat(FULL), FULL);
        bad("0".repeat(FULL), FULL);
    }

    /** What end() took away is no part of the TAPE, though the bytes may stand behind it. */
    @Sentence(promise = 0, says = "if it ends too soon.")
    void theTapeEndsWhereItIsSaidToEnd() {
        write("0,12|7,7");
        x.end(2);
        due("read", x.read(0), -6);
        due("fault()", x.fault(), 2);
        write("0,12/60");
        x.end(3);
        due("read", x.read(0), 1);
        storeIs(0, "0,1");
    }

    @Sentence(promise = 0, says = "(PARTS that meet, KNOTS that go straight on: as few KNOTS as can be, then.")
    void whatIsReadIsToldByFewKnots() {
        good(0, "0,0 1,1|1,1 2,2 3,3|3,3", 2);
        storeIs(0, "0,0 3,3");
        good(0, "0,0 1,1 2,2 3,3 4,4 5,5 6,6 7,7 8,8 9,9 10,10 11,11", 2);
        good(0, "0,0|".repeat(11) + "0,0", 1);
    }

    @Sentence(promise = 0, says = "More than 12 as told: FAULT.)")
    void moreThanTwelveAsTold() {
        bad("0,0 1,1 2,2 3,3 4,4 5,5 6,6 7,7 8,8 9,9 10,10 11,11 12,12", 52);
        bad("0,0|".repeat(12) + "0,0", 48);
        bad("0,0 1,0|".repeat(1) + "1,0|".repeat(10) + "1,0", 48);
    }

    // ---- promises 1 to 3

    @Sentence(promise = 1, says = "STORE, PAPER are NOTHING; an empty TAPE.")
    void aNewObject() {
        for (int w = 0; w <= 15; w++) {
            due("count(" + w + ")", x.count(w), w == 8 ? 1 : 0);
        }
        dueText("the state", state(), "\n".repeat(7) + "0 0");
        due("status()", x.status(), 0);
        due("fault()", x.fault(), -1);
        due("end(1)", x.end(1), -1);
        refused("undo", -4, () -> x.undo());
        refused("back(0)", -2, () -> x.back(0));
        refused("back(1)", -2, () -> x.back(1));
    }

    /** A second object has a STORE and a TAPE of its own. */
    @Sentence(promise = 1, says = "an empty TAPE.")
    void objectsShareNothing() {
        text(0, "0,0 1,1");
        x.lay(0);
        write("5,5");
        Bench other = new Bench();
        other.name = name;
        dueText("another one's state", other.state(), "\n".repeat(7) + "0 0");
        other.text(0, "7,7");
        storeIs(0, "0,0 1,1");
        due("bytes of the TAPE", x.count(10), 3);
    }

    @Sentence(promise = 2, says = {
        "Twenty bytes come behind the TAPE, four of each number, the highest first:", "how many it has."})
    void twentyBytesTheHighestFirst() {
        due("feed", x.feed(0x302C3020, 0x322C3220, 0x342C3020, 0x362C3220, 0x382C3020), 20);
        due("feed", x.feed(0x392C3120, 0x20202020, 0x20202020, 0x20202020, 0x2031302C), 40);
        due("feed", x.feed(0x302F3100, 0, 0, 0, 0), 60);
        x.end(43);
        due("read", x.read(0), 7);
        storeIs(0, "0,0 2,2 4,0 6,2 8,0 9,1 10,0");
        due("bytes above 127 are taken as they are", x.feed(0x302CFF30, 0, 0, 0, 0), 20);
        x.end(4);
        due("read", x.read(0), -6);
        due("fault()", x.fault(), 2);
    }

    @Sentence(promise = 2, says = "NONE, if there would be more than 400.")
    void noMoreThanFourHundred() {
        for (int k = 1; k <= 20; k++) {
            due("feed", x.feed(-1, 0, 0, 0, 0), 20 * k);
        }
        due("feed with 400", x.feed(0, 0, 0, 0, 0), -1);
        due("bytes", x.count(10), 400);
        x.end(381);
        due("feed with 381", x.feed(0, 0, 0, 0, 0), -1);
        due("bytes", x.count(10), 381);
        x.end(380);
        due("feed with 380", x.feed(0, 0, 0, 0, 0), 400);
    }

    @Sentence(promise = 3, says = "The TAPE has its first n bytes alone: n.")
    void theFirstBytesAlone() {
        x.feed(0x302C3120, 0x322C3320, 0, 0, 0);
        due("end(20)", x.end(20), 20);
        due("end(8)", x.end(8), 8);
        due("end(8) again", x.end(8), 8);
        due("end(7)", x.end(7), 7);
        due("end(3)", x.end(3), 3);
        due("read", x.read(0), 1);
        storeIs(0, "0,1");
        x.feed(0x352C3531, 0, 0, 0, 0);
        x.end(3);
        x.feed(0x2F323000, 0, 0, 0, 0);
        x.end(6);
        due("what comes behind it", x.read(0), 1);
        storeIs(0, "5,1/4");
    }

    @Sentence(promise = 3, says = "NONE, if it has not so many, or n is below 0.")
    void notSoManyBytes() {
        due("end(1) of none", x.end(1), -1);
        due("end(0) of none", x.end(0), 0);
        x.feed(0, 0, 0, 0, 0);
        due("end(21)", x.end(21), -1);
        due("end(greatest)", x.end(Integer.MAX_VALUE), -1);
        due("end(-1)", x.end(-1), -1);
        due("end(least)", x.end(Integer.MIN_VALUE), -1);
        due("bytes", x.count(10), 20);
        x.end(7);
        due("end(8)", x.end(8), -1);
        due("bytes", x.count(10), 7);
        due("end(0)", x.end(0), 0);
        due("bytes", x.count(10), 0);
    }

    // ---- promises 4 and 5

    @Sentence(promise = 4, says = {"The TEXT on the TAPE (empty then) into STORE:", "how many KNOTS."})
    void readEmptiesTheTape() {
        for (int i = 0; i < 6; i++) {
            due("read(" + i + ")", text(i, "0,0 1,1 2,0|5,5"), 4);
            due("bytes", x.count(10), 0);
            storeIs(i, "0,0 1,1 2,0|5,5");
        }
        due("in place of what was", text(3, "1,1"), 1);
        storeIs(3, "1,1");
        due("KNOTS that are none do not count", text(3, "1,1 2,2 3,3"), 2);
    }

    @Sentence(promise = 4, says = "-2 (the TAPE stays);")
    void readOfNoSuchPlace() {
        write("0,0");
        for (int i : NO_STORES) {
            refused("read(" + i + ")", -2, () -> x.read(i));
            due("bytes", x.count(10), 3);
        }
        due("read(5)", x.read(5), 1);
    }

    @Sentence(promise = 4, says = "-6.")
    void readOfABadText() {
        text(0, "0,0 1,1");
        write("0,0 1,1 x");
        refused("read(0)", -6, () -> x.read(0));
        storeIs(0, "0,0 1,1");
        due("the TAPE is empty then, too", x.count(10), 0);
        refused("read(0) of an empty TAPE", -6, () -> x.read(0));
        due("what can be undone", x.count(9), 1);
    }

    @Sentence(promise = 5, says = "FAULT of the latest read() that was not REFUSED by -2;")
    void faultOfTheLatestRead() {
        text(0, "0,0 x");
        due("fault()", x.fault(), 4);
        x.read(6);
        due("behind a read() of no such place", x.fault(), 4);
        text(0, "0,0|y");
        due("of the latest", x.fault(), 4);
        text(0, "z");
        due("of the latest", x.fault(), 0);
        x.dot(0, 0, 0);
        x.undo();
        due("acts and undo() leave it", x.fault(), 0);
        text(0, "0,0");
        x.read(-1);
        due("behind a good one and one of no such place", x.fault(), -1);
    }

    @Sentence(promise = 5, says = "NONE without one, ahead of any.")
    void faultWithoutOne() {
        due("ahead of any", x.fault(), -1);
        x.read(6);
        due("ahead of any that was not REFUSED by -2", x.fault(), -1);
        text(0, "x");
        text(0, "0,0");
        due("behind a good one", x.fault(), -1);
    }
}
