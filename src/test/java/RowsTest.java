/** Promises 1 to 7: a new object, row, lay, at, tear, copy, mean. */
public final class RowsTest {
    private static final int BAD = MoonLine.BAD, STATE = MoonLine.STATE, NONE = MoonLine.NONE;
    private static final int MIN = Due.MIN, MAX = Due.MAX;
    private static final Due due = new Due();

    public static void main(String[] args) {
        due.run(RowsTest.class);
    }

    // ---- 1 a new object

    @Says({"No ROWS", "or missing (at first)"})
    static void promise01_noRowsAtFirst() {
        MoonLine x = new MoonLine();
        due.is(x, "count(8)", 0);
        for (int r = 0; r <= 5; r++) {
            due.finds(x, "at(" + r + ", 0)", Due.NOTHING);
        }
    }

    @Says("TEXTS")
    static void promise01_noTextsAtFirst() {
        MoonLine x = new MoonLine();
        due.is(x, "count(9)", 0);
        for (int t = 0; t <= 3; t++) {
            due.finds(x, "fault(" + t + ")", Due.NOTHING);
        }
    }

    @Says({"PERSONS", "A LINE (without PERSONS at first)"})
    static void promise01_noPersonsAtFirst() {
        MoonLine x = new MoonLine();
        for (int what = 0; what <= 7; what++) {
            due.is(x, "count(" + what + ")", 0);
        }
        due.refused(x, "person(0, 0)", BAD);
        due.refused(x, "night(1)", STATE);
        due.is(x, "tonight()", NONE);
    }

    @Says("a kept LINE that is missing")
    static void promise01_noKeptLinesAtFirst() {
        MoonLine x = new MoonLine();
        due.is(x, "count(10)", 0);
        for (int k = 0; k <= 2; k++) {
            due.finds(x, "on(" + k + ")", Due.NOTHING);
        }
    }

    @Says({"No ROWS", "TEXTS", "PERSONS"})
    static void promise01_eachObjectIsItsOwn() {
        MoonLine x = Due.line("w90 w90");
        x.row(0, 3);
        x.keep(0);
        MoonLine y = new MoonLine();
        for (int what = 0; what <= 10; what++) {
            due.is(y, "count(" + what + ")", 0);
        }
        due.is(x, "count(0)", 2);
    }

    @Says({"BAD -1 (a number that is none, or not as told), FULL -2, STATE -4 (not now), SPENT -6 (more than told)",
        "FINDING -3", "NONE -9"})
    static void promise01_theConstants() {
        due.is("BAD", MoonLine.BAD, -1);
        due.is("FULL", MoonLine.FULL, -2);
        due.is("FINDING", MoonLine.FINDING, -3);
        due.is("STATE", MoonLine.STATE, -4);
        due.is("SPENT", MoonLine.SPENT, -6);
        due.is("NONE", MoonLine.NONE, -9);
    }

    /** "An object is used for at most 512 calls after it has been made": the last of these is as due yet. */
    @Says({"No ROWS", "TEXTS", "PERSONS"})
    static void promise01_the512thCall() {
        MoonLine x = new MoonLine();
        x.row(0, 40);
        for (int k = 0; k < 509; k++) {
            x.lay(0, k % 40, k);
        }
        due.asks(x, "at(0, 28)", 508);
        MoonLine y = new MoonLine();
        for (int k = 0; k < 511; k++) {
            y.tear(5);
        }
        due.is(y, "findings(1)", 511);
    }

    // ---- 2 row

    @Says("A ROW is there with n ints 0: n")
    static void promise02_aRowOfNoughts() {
        MoonLine x = new MoonLine();
        due.is(x, "row(2, 3)", 3);
        due.is(x, "count(8)", 1);
        due.row(x, 2, 0, 0, 0);
    }

    @Says("A ROW is there with n ints 0: n")
    static void promise02_aRowAnew() {
        MoonLine x = new MoonLine();
        Due.fill(x, 2, 7, 8, 9);
        due.is(x, "row(2, 2)", 2);
        due.row(x, 2, 0, 0);
        due.is(x, "row(2, 4)", 4);
        due.row(x, 2, 0, 0, 0, 0);
        due.is(x, "count(8)", 1);
    }

    @Says("rows of 0 to 40 ints")
    static void promise02_aRowOfNone() {
        MoonLine x = new MoonLine();
        due.is(x, "row(1, 0)", 0);
        due.is(x, "count(8)", 1);
        due.finds(x, "at(1, 0)", Due.BEYOND);
    }

    @Says("rows of 0 to 40 ints")
    static void promise02_aRowOf40() {
        MoonLine x = new MoonLine();
        due.is(x, "row(1, 40)", 40);
        due.asks(x, "at(1, 39)", 0);
        due.finds(x, "at(1, 40)", Due.BEYOND);
    }

    @Says("ROWS 0 .. 5")
    static void promise02_allRows() {
        MoonLine x = new MoonLine();
        for (int r = 0; r <= 5; r++) {
            due.is(x, "row(" + r + ", " + (r + 1) + ")", r + 1);
        }
        due.is(x, "count(8)", 6);
        for (int r = 0; r <= 5; r++) {
            due.asks(x, "at(" + r + ", " + r + ")", 0);
            due.finds(x, "at(" + r + ", " + (r + 1) + ")", Due.BEYOND);
        }
    }

    @Says({"BAD", "ROWS 0 .. 5"})
    static void promise02_noSuchRowIsBad() {
        MoonLine x = new MoonLine();
        for (int r : Due.outside(0, 5)) {
            due.refused(x, "row(" + r + ", 1)", BAD);
        }
    }

    @Says("also n above 40")
    static void promise02_nAbove40IsBad() {
        MoonLine x = new MoonLine();
        Due.fill(x, 1, 5);
        due.refused(x, "row(1, 41)", BAD);
        due.refused(x, "row(1, MAX)", BAD);
        due.refused(x, "row(0, 41)", BAD);
    }

    @Says({"SIZE: below 0", "5 SIZE (fewer than none"})
    static void promise02_nBelow0IsSize() {
        MoonLine x = new MoonLine();
        Due.fill(x, 1, 5);
        due.finds(x, "row(1, -1)", Due.SIZE);
        due.finds(x, "row(1, MIN)", Due.SIZE);
        due.finds(x, "row(0, -1)", Due.SIZE);
    }

    @Says("the first of these that fits, in this order: BAD -1")
    static void promise02_badAheadOfSize() {
        MoonLine x = new MoonLine();
        due.refused(x, "row(6, -1)", BAD);
        due.refused(x, "row(-1, MIN)", BAD);
    }

    // ---- 3 lay

    @Says("Place i of a ROW is v: what it was, told by asked(): 1")
    static void promise03_tellsWhatItWas() {
        MoonLine x = new MoonLine();
        x.row(1, 3);
        due.asks(x, "lay(1, 1, 7)", 0);
        due.asks(x, "lay(1, 1, 8)", 7);
        due.row(x, 1, 0, 8, 0);
    }

    @Says("Place i of a ROW is v")
    static void promise03_anyIntAtTheFirstAndTheLastPlace() {
        MoonLine x = new MoonLine();
        x.row(1, 40);
        due.asks(x, "lay(1, 0, MIN)", 0);
        due.asks(x, "lay(1, 39, MAX)", 0);
        due.asks(x, "lay(1, 0, -9)", MIN);
        due.asks(x, "lay(1, 39, -1)", MAX);
        due.asks(x, "at(1, 0)", -9);
        due.asks(x, "at(1, 39)", -1);
    }

    @Says("BAD")
    static void promise03_noSuchRowIsBad() {
        MoonLine x = new MoonLine();
        x.row(0, 1);
        x.row(5, 1);
        for (int r : Due.outside(0, 5)) {
            due.refused(x, "lay(" + r + ", 0, 1)", BAD);
        }
    }

    @Says("NOTHING")
    static void promise03_aMissingRow() {
        MoonLine x = new MoonLine();
        x.row(0, 3);
        due.finds(x, "lay(1, 0, 1)", Due.NOTHING);
        x.tear(0);
        due.finds(x, "lay(0, 0, 1)", Due.NOTHING);
    }

    @Says({"BEYOND", "2 BEYOND (a place of a ROW, a TEXT that there is not)"})
    static void promise03_noSuchPlaceIsBeyond() {
        MoonLine x = new MoonLine();
        Due.fill(x, 1, 4, 5, 6);
        for (int i : Due.outside(0, 2)) {
            due.finds(x, "lay(1, " + i + ", 9)", Due.BEYOND);
        }
        x.row(2, 0);
        due.finds(x, "lay(2, 0, 9)", Due.BEYOND);
        x.row(3, 40);
        due.finds(x, "lay(3, 40, 9)", Due.BEYOND);
    }

    @Says("BAD; NOTHING; BEYOND")
    static void promise03_nothingAheadOfBeyond() {
        MoonLine x = new MoonLine();
        due.finds(x, "lay(1, -1, 9)", Due.NOTHING);
        due.finds(x, "lay(1, 40, 9)", Due.NOTHING);
    }

    // ---- 4 at

    @Says("Place i of a ROW, told by asked(): 1")
    static void promise04_tellsAPlace() {
        MoonLine x = new MoonLine();
        Due.fill(x, 1, MAX, 0, MIN);
        due.asks(x, "at(1, 0)", MAX);
        due.asks(x, "at(1, 1)", 0);
        due.asks(x, "at(1, 2)", MIN);
        due.asks(x, "at(1, 2)", MIN);
    }

    @Says("BAD")
    static void promise04_noSuchRowIsBad() {
        MoonLine x = new MoonLine();
        x.row(0, 1);
        x.row(5, 1);
        for (int r : Due.outside(0, 5)) {
            due.refused(x, "at(" + r + ", 0)", BAD);
        }
    }

    @Says({"NOTHING", "1 NOTHING (a ROW, a TEXT, a kept LINE that is missing)"})
    static void promise04_aMissingRow() {
        MoonLine x = new MoonLine();
        x.row(0, 3);
        due.finds(x, "at(1, 0)", Due.NOTHING);
        x.tear(0);
        due.finds(x, "at(0, 0)", Due.NOTHING);
    }

    @Says("BEYOND")
    static void promise04_noSuchPlaceIsBeyond() {
        MoonLine x = new MoonLine();
        Due.fill(x, 1, 4, 5, 6);
        for (int i : Due.outside(0, 2)) {
            due.finds(x, "at(1, " + i + ")", Due.BEYOND);
        }
        x.row(2, 0);
        due.finds(x, "at(2, 0)", Due.BEYOND);
    }

    @Says("BAD; NOTHING; BEYOND")
    static void promise04_nothingAheadOfBeyond() {
        MoonLine x = new MoonLine();
        due.finds(x, "at(1, -1)", Due.NOTHING);
        due.finds(x, "at(1, 40)", Due.NOTHING);
    }

    // ---- 5 tear

    @Says("A ROW is missing: 1")
    static void promise05_aRowIsMissing() {
        MoonLine x = new MoonLine();
        Due.fill(x, 0, 1, 2);
        Due.fill(x, 5, 3, 4);
        x.row(2, 0);
        due.is(x, "tear(5)", 1);
        due.is(x, "count(8)", 2);
        due.finds(x, "at(5, 0)", Due.NOTHING);
        due.is(x, "tear(2)", 1);
        due.row(x, 0, 1, 2);
        due.is(x, "row(5, 2)", 2);
        due.row(x, 5, 0, 0);
    }

    @Says("BAD")
    static void promise05_noSuchRowIsBad() {
        MoonLine x = new MoonLine();
        x.row(0, 1);
        x.row(5, 1);
        for (int r : Due.outside(0, 5)) {
            due.refused(x, "tear(" + r + ")", BAD);
        }
    }

    @Says("NOTHING")
    static void promise05_aMissingRow() {
        MoonLine x = new MoonLine();
        due.finds(x, "tear(5)", Due.NOTHING);
        x.row(5, 1);
        x.tear(5);
        due.finds(x, "tear(5)", Due.NOTHING);
    }

    // ---- 6 copy

    @Says("n places of a ROW, from one on, come to those of another one (perhaps itself) from one on")
    static void promise06_placesComeToAnotherRow() {
        MoonLine x = new MoonLine();
        Due.fill(x, 0, 1, 2, 3, 4, 5);
        Due.fill(x, 1, 9, 8, 7);
        due.is(x, "copy(1, 1, 0, 3, 2)", 1);
        due.row(x, 0, 1, 2, 3, 8, 7);
        due.row(x, 1, 9, 8, 7);
    }

    @Says({"(perhaps itself)", "as if taken ahead: 1"})
    static void promise06_withinARowAsIfTakenAhead() {
        MoonLine x = new MoonLine();
        Due.fill(x, 0, 1, 2, 3, 4, 5);
        due.is(x, "copy(0, 0, 0, 1, 4)", 1);
        due.row(x, 0, 1, 1, 2, 3, 4);
        Due.fill(x, 0, 1, 2, 3, 4, 5);
        due.is(x, "copy(0, 1, 0, 0, 4)", 1);
        due.row(x, 0, 2, 3, 4, 5, 5);
    }

    @Says("n places of a ROW")
    static void promise06_noPlaces() {
        MoonLine x = new MoonLine();
        Due.fill(x, 0, 1, 2);
        x.row(1, 0);
        due.aside(x, "copy(0, 0, 1, 0, 0)", 1);
        due.aside(x, "copy(1, 0, 0, 2, 0)", 1);
        due.aside(x, "copy(0, 2, 0, 0, 0)", 1);
    }

    @Says("n places of a ROW")
    static void promise06_all40Places() {
        MoonLine x = new MoonLine();
        x.row(0, 40);
        x.row(5, 40);
        x.lay(0, 0, 3);
        x.lay(0, 39, 4);
        due.is(x, "copy(0, 0, 5, 0, 40)", 1);
        due.asks(x, "at(5, 0)", 3);
        due.asks(x, "at(5, 39)", 4);
        due.finds(x, "copy(0, 0, 5, 0, 41)", Due.BEYOND);
    }

    @Says("BAD")
    static void promise06_noSuchRowIsBad() {
        MoonLine x = new MoonLine();
        x.row(0, 2);
        x.row(5, 2);
        for (int r : Due.outside(0, 5)) {
            due.refused(x, "copy(" + r + ", 0, 0, 0, 1)", BAD);
            due.refused(x, "copy(0, 0, " + r + ", 0, 1)", BAD);
        }
    }

    @Says("SIZE: n below 0")
    static void promise06_nBelow0IsSize() {
        MoonLine x = new MoonLine();
        x.row(0, 2);
        due.finds(x, "copy(0, 0, 0, 0, -1)", Due.SIZE);
        due.finds(x, "copy(0, 2, 0, 2, -1)", Due.SIZE);
        due.finds(x, "copy(0, 0, 0, 0, MIN)", Due.SIZE);
    }

    @Says("NOTHING: either")
    static void promise06_eitherRowMissing() {
        MoonLine x = new MoonLine();
        x.row(0, 2);
        due.finds(x, "copy(1, 0, 0, 0, 1)", Due.NOTHING);
        due.finds(x, "copy(0, 0, 1, 0, 1)", Due.NOTHING);
        due.finds(x, "copy(1, 0, 2, 0, 1)", Due.NOTHING);
        due.finds(x, "copy(1, 0, 1, 0, 0)", Due.NOTHING);
    }

    @Says("BEYOND: not so many there")
    static void promise06_notSoManyInTheFirst() {
        MoonLine x = new MoonLine();
        Due.fill(x, 0, 1, 2, 3);
        x.row(1, 5);
        due.finds(x, "copy(0, 0, 1, 0, 4)", Due.BEYOND);
        due.finds(x, "copy(0, 2, 1, 0, 2)", Due.BEYOND);
        due.finds(x, "copy(0, 3, 1, 0, 1)", Due.BEYOND);
        due.finds(x, "copy(0, -1, 1, 0, 1)", Due.BEYOND);
        due.finds(x, "copy(0, -1, 1, 0, 0)", Due.BEYOND);
        due.finds(x, "copy(0, 4, 1, 0, 0)", Due.BEYOND);
    }

    @Says("BEYOND: not so many there")
    static void promise06_notSoManyInTheSecond() {
        MoonLine x = new MoonLine();
        Due.fill(x, 0, 1, 2, 3);
        x.row(1, 5);
        due.finds(x, "copy(1, 0, 0, 0, 4)", Due.BEYOND);
        due.finds(x, "copy(1, 0, 0, 2, 2)", Due.BEYOND);
        due.finds(x, "copy(1, 0, 0, 3, 1)", Due.BEYOND);
        due.finds(x, "copy(1, 0, 0, -1, 1)", Due.BEYOND);
        due.finds(x, "copy(1, 0, 0, -1, 0)", Due.BEYOND);
        due.finds(x, "copy(1, 0, 0, 4, 0)", Due.BEYOND);
    }

    @Says("BEYOND: not so many there")
    static void promise06_largeNumbersDoNotWrapAround() {
        MoonLine x = new MoonLine();
        x.row(0, 3);
        due.finds(x, "copy(0, MAX, 0, 0, MAX)", Due.BEYOND);
        due.finds(x, "copy(0, 1, 0, 1, MAX)", Due.BEYOND);
        due.finds(x, "copy(0, 0, 0, MAX, 1)", Due.BEYOND);
        due.finds(x, "copy(0, MIN, 0, 0, MAX)", Due.BEYOND);
        due.finds(x, "copy(0, 0, 0, MIN, MAX)", Due.BEYOND);
    }

    @Says("BAD; SIZE: n below 0; NOTHING: either; BEYOND")
    static void promise06_theOrderOfRefusals() {
        MoonLine x = new MoonLine();
        x.row(0, 2);
        due.refused(x, "copy(6, 9, 0, 9, -1)", BAD);
        due.refused(x, "copy(0, 9, -1, 9, -1)", BAD);
        due.finds(x, "copy(1, 9, 0, 9, -1)", Due.SIZE);
        due.finds(x, "copy(0, 9, 1, 9, -1)", Due.SIZE);
        due.finds(x, "copy(0, 9, 0, 9, -1)", Due.SIZE);
        due.finds(x, "copy(1, 9, 0, 9, 1)", Due.NOTHING);
        due.finds(x, "copy(0, 9, 1, 9, 1)", Due.NOTHING);
    }

    // ---- 7 mean

    private static void meanIs(int mean, int... places) {
        MoonLine x = new MoonLine();
        Due.fill(x, 4, places);
        due.asks(x, "mean(4)", mean);
    }

    @Says("The mean of a ROW's ints, cut, told by asked(): 1")
    static void promise07_theMeanIsCut() {
        meanIs(8, 7, 8, 9, 11);
        meanIs(5, 5);
        meanIs(0, 1, 0);
        meanIs(1, 1, 2);
    }

    @Says("cut")
    static void promise07_cutBelow0Too() {
        meanIs(-7, -7, -8);
        meanIs(0, -1, 0);
        meanIs(-1, -1, -1, -3);
        meanIs(0, 1, -2);
    }

    @Says("The mean of a ROW's ints")
    static void promise07_largeSumsDoNotWrapAround() {
        meanIs(MAX, MAX, MAX, MAX);
        meanIs(MIN, MIN, MIN);
        meanIs(0, MAX, MIN);
        MoonLine x = new MoonLine();
        x.row(0, 40);
        for (int k = 0; k < 40; k++) {
            x.lay(0, k, MIN);
        }
        due.asks(x, "mean(0)", MIN);
    }

    @Says("BAD")
    static void promise07_noSuchRowIsBad() {
        MoonLine x = new MoonLine();
        x.row(0, 1);
        x.row(5, 1);
        for (int r : Due.outside(0, 5)) {
            due.refused(x, "mean(" + r + ")", BAD);
        }
    }

    @Says("NOTHING")
    static void promise07_aMissingRow() {
        MoonLine x = new MoonLine();
        due.finds(x, "mean(0)", Due.NOTHING);
        due.finds(x, "mean(5)", Due.NOTHING);
    }

    @Says({"NOUGHT", "4 NOUGHT (shared among none)"})
    static void promise07_aRowOfNoneIsNought() {
        MoonLine x = new MoonLine();
        Due.fill(x, 1, 6);
        x.mean(1);
        x.row(0, 0);
        due.finds(x, "mean(0)", Due.NOUGHT);
        due.is(x, "asked()", 6);
    }
}
