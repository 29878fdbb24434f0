/** Promises 8 to 14: text, put, fault, line, person, mark, price. */
public final class TextsTest {
    private static final int NONE = MoonLine.NONE, BAD = MoonLine.BAD, STATE = MoonLine.STATE;
    private static final String SEVEN = "w10p20s30l40r50d60w79";
    private static final Due due = new Due();

    public static void main(String[] args) {
        due.run(TextsTest.class);
    }

    // ---- 8 text

    @Says("A TEXT is there with n blanks: n")
    static void promise08_aTextOfBlanks() {
        MoonLine x = new MoonLine();
        due.is(x, "text(2, 3)", 3);
        due.is(x, "count(9)", 1);
        for (int i = 0; i < 3; i++) {
            due.is(x, "put(2, " + i + ", 65)", 1032);
        }
    }

    @Says("A TEXT is there with n blanks: n")
    static void promise08_aTextAnew() {
        MoonLine x = new MoonLine();
        Due.write(x, 2, "w10");
        due.is(x, "text(2, 2)", 2);
        due.is(x, "put(2, 0, 65)", 1032);
        due.finds(x, "put(2, 2, 65)", Due.BEYOND);
        due.is(x, "text(2, 3)", 3);
        due.is(x, "fault(2)", 3);
        due.is(x, "count(9)", 1);
    }

    @Says("rows of 0 to 60 bytes")
    static void promise08_aTextOfNone() {
        MoonLine x = new MoonLine();
        due.is(x, "text(0, 0)", 0);
        due.is(x, "count(9)", 1);
        due.finds(x, "put(0, 0, 65)", Due.BEYOND);
    }

    @Says("rows of 0 to 60 bytes")
    static void promise08_aTextOf60() {
        MoonLine x = new MoonLine();
        due.is(x, "text(0, 60)", 60);
        due.is(x, "put(0, 59, 65)", 1032);
        due.finds(x, "put(0, 60, 65)", Due.BEYOND);
    }

    @Says("TEXTS 0 .. 3")
    static void promise08_allTexts() {
        MoonLine x = new MoonLine();
        for (int t = 0; t <= 3; t++) {
            due.is(x, "text(" + t + ", " + (t + 1) + ")", t + 1);
        }
        due.is(x, "count(9)", 4);
        for (int t = 0; t <= 3; t++) {
            due.is(x, "fault(" + t + ")", t + 1);
        }
    }

    @Says({"BAD", "TEXTS 0 .. 3"})
    static void promise08_noSuchTextIsBad() {
        MoonLine x = new MoonLine();
        for (int t : Due.outside(0, 3)) {
            due.refused(x, "text(" + t + ", 1)", BAD);
        }
    }

    @Says("also n above 60")
    static void promise08_nAbove60IsBad() {
        MoonLine x = new MoonLine();
        Due.write(x, 1, "w10");
        due.refused(x, "text(1, 61)", BAD);
        due.refused(x, "text(1, MAX)", BAD);
        due.refused(x, "text(0, 61)", BAD);
    }

    @Says("SIZE: below 0")
    static void promise08_nBelow0IsSize() {
        MoonLine x = new MoonLine();
        Due.write(x, 1, "w10");
        due.finds(x, "text(1, -1)", Due.SIZE);
        due.finds(x, "text(1, MIN)", Due.SIZE);
        due.finds(x, "text(0, -1)", Due.SIZE);
    }

    @Says("BAD: also n above 60; SIZE: below 0")
    static void promise08_badAheadOfSize() {
        MoonLine x = new MoonLine();
        due.refused(x, "text(4, -1)", BAD);
        due.refused(x, "text(-1, MIN)", BAD);
    }

    // ---- 9 put

    @Says("what it was, and 1000 more")
    static void promise09_whatItWasAnd1000More() {
        MoonLine x = new MoonLine();
        x.text(3, 2);
        due.is(x, "put(3, 1, 65)", 1032);
        due.is(x, "put(3, 1, 0)", 1065);
        due.is(x, "put(3, 1, 7)", 1000);
        due.is(x, "put(3, 0, 7)", 1032);
    }

    /** Puts v at the first place and at the last one of a text: then it is there, cut. */
    private static void cutTo(int v, int cut) {
        MoonLine x = new MoonLine();
        x.text(1, 60);
        due.is(x, "put(1, 0, " + v + ")", 1032);
        due.is(x, "put(1, 59, " + v + ")", 1032);
        due.is(x, "put(1, 0, 65)", 1000 + cut);
        due.is(x, "put(1, 59, 65)", 1000 + cut);
    }

    @Says("Byte i of a TEXT is v, cut to a byte")
    static void promise09_bytesThatNeedNoCut() {
        cutTo(0, 0);
        cutTo(127, 127);
        cutTo(-1, -1);
        cutTo(-128, -128);
    }

    @Says("cut to a byte")
    static void promise09_cutToAByte() {
        cutTo(128, -128);
        cutTo(255, -1);
        cutTo(256, 0);
        cutTo(256 + 'w', 'w');
        cutTo(-129, 127);
        cutTo(-256, 0);
        cutTo(Due.MAX, -1);
        cutTo(Due.MIN, 0);
    }

    @Says("BAD")
    static void promise09_noSuchTextIsBad() {
        MoonLine x = new MoonLine();
        x.text(0, 1);
        x.text(3, 1);
        for (int t : Due.outside(0, 3)) {
            due.refused(x, "put(" + t + ", 0, 1)", BAD);
        }
    }

    @Says("NOTHING")
    static void promise09_aMissingText() {
        MoonLine x = new MoonLine();
        x.text(0, 1);
        due.finds(x, "put(1, 0, 1)", Due.NOTHING);
        due.finds(x, "put(3, 0, 1)", Due.NOTHING);
    }

    @Says("BEYOND")
    static void promise09_noSuchPlaceIsBeyond() {
        MoonLine x = new MoonLine();
        Due.write(x, 1, "abc");
        for (int i : Due.outside(0, 2)) {
            due.finds(x, "put(1, " + i + ", 1)", Due.BEYOND);
        }
        x.text(2, 0);
        due.finds(x, "put(2, 0, 1)", Due.BEYOND);
    }

    @Says("BAD; NOTHING; BEYOND")
    static void promise09_nothingAheadOfBeyond() {
        MoonLine x = new MoonLine();
        due.finds(x, "put(1, -1, 1)", Due.NOTHING);
        due.finds(x, "put(1, 60, 1)", Due.NOTHING);
    }

    // ---- 10 fault

    private static void faultIs(String signs, int place) {
        MoonLine x = new MoonLine();
        Due.write(x, 2, signs);
        due.is("fault of '" + signs + "'", Due.call(x, "fault(2)"), place);
    }

    @Says("NONE: there is none")
    static void promise10_noFault() {
        faultIs("w10", NONE);
        faultIs("p99s55", NONE);
        faultIs("l11 r22 d33", NONE);
    }

    @Says("blanks (32) ahead, between, behind as many as wanted")
    static void promise10_blanksWhereTheyMayBe() {
        faultIs("   w10", NONE);
        faultIs("w10     p99", NONE);
        faultIs("w10    ", NONE);
        faultIs("  w10  p99s55 ", NONE);
        faultIs(" ".repeat(57) + "w10", NONE);
        faultIs("w10" + " ".repeat(57), NONE);
    }

    @Says("none within items")
    static void promise10_aBlankWithinAnItem() {
        faultIs("w 10", 1);
        faultIs("w1 0", 2);
        faultIs("w10 p2 0", 6);
    }

    @Says("blanks (32)")
    static void promise10_othersAreNoBlanks() {
        faultIs("\tw10", 0);
        faultIs("w10\t", 3);
        faultIs("w10\n", 3);
        faultIs("w10" + (char) 0, 3);
        faultIs("w10" + (char) 160, 3);
    }

    @Says("a letter, a figure that is none such")
    static void promise10_aLetterThatIsNone() {
        faultIs("x10", 0);
        faultIs("W10", 0);
        faultIs("  q10", 2);
        faultIs(" w10,", 4);
        faultIs("w10 5", 4);
        faultIs("w105", 3);
        faultIs("w10" + (char) 247, 3);
        faultIs("w10" + (char) 239, 3);
    }

    @Says({"PATIENCE (1 .. 9)", "a figure that is none such"})
    static void promise10_patienceIsFrom1To9() {
        faultIs("w10", NONE);
        faultIs("w90", NONE);
        faultIs("w00", 1);
        faultIs("w:0", 1);
        faultIs("w/0", 1);
        faultIs("ww0", 1);
        faultIs("w" + (char) 177 + "0", 1);
    }

    @Says({"PRICE (0 .. 9)", "a figure that is none such"})
    static void promise10_aPriceIsFrom0To9() {
        faultIs("w10", NONE);
        faultIs("w19", NONE);
        faultIs("w1/", 2);
        faultIs("w1:", 2);
        faultIs("w1w", 2);
        faultIs("w1" + (char) 176, 2);
    }

    @Says("one figure each")
    static void promise10_oneFigureEach() {
        faultIs("w123", 3);
        faultIs("w12 3", 4);
        faultIs("w1p20", 2);
    }

    @Says({"(1 to 7; as they stand, the first one first)", "an eighth one: its place"})
    static void promise10_anEighthOne() {
        faultIs(SEVEN, NONE);
        faultIs(SEVEN + "   ", NONE);
        faultIs(SEVEN + "w", 21);
        faultIs(SEVEN + "w10", 21);
        faultIs(SEVEN + "  w10", 23);
        faultIs(SEVEN + " x", 22);
    }

    @Says("the TEXT's size, if its end comes too early")
    static void promise10_theEndComesTooEarly() {
        faultIs("w", 1);
        faultIs("w1", 2);
        faultIs("w10 p", 5);
        faultIs("w10p2", 5);
        faultIs(" ".repeat(59) + "w", 60);
    }

    @Says("or there are blanks alone")
    static void promise10_blanksAlone() {
        faultIs("   ", 3);
        faultIs(" ", 1);
        faultIs(" ".repeat(60), 60);
    }

    @Says("the TEXT's size, if its end comes too early, or there are blanks alone")
    static void promise10_aTextOfNone() {
        faultIs("", 0);
    }

    @Says("A FAULT is the first place at which it can't go on so")
    static void promise10_theFirstOfTwo() {
        faultIs("w0x", 1);
        faultIs("x w", 0);
        faultIs("w10 y p", 4);
    }

    @Says("A FAULT of a TEXT")
    static void promise10_changesNothing() {
        MoonLine x = Due.line("w90 p80");
        x.night(1);
        Due.write(x, 1, "s33 s4");
        due.aside(x, "fault(1)", 6);
        due.aside(x, "fault(0)", NONE);
        due.person(x, 1, 0, 1);
    }

    @Says("BAD")
    static void promise10_noSuchTextIsBad() {
        MoonLine x = new MoonLine();
        x.text(0, 1);
        x.text(3, 1);
        for (int t : Due.outside(0, 3)) {
            due.refused(x, "fault(" + t + ")", BAD);
        }
    }

    @Says("NOTHING")
    static void promise10_aMissingText() {
        MoonLine x = new MoonLine();
        x.text(1, 0);
        due.finds(x, "fault(0)", Due.NOTHING);
        due.finds(x, "fault(3)", Due.NOTHING);
    }

    // ---- 11 line

    @Says("how many PERSONS")
    static void promise11_howManyPersons() {
        MoonLine x = new MoonLine();
        for (int n = 1; n <= 7; n++) {
            Due.write(x, 1, SEVEN.substring(0, 3 * n) + " ");
            due.is(x, "line(1)", n);
            due.is(x, "count(0)", n);
            due.is(x, "count(3)", n);
        }
    }

    @Says({"0 WAITER (w, 119), 1 PUSHER (p, 112; a WAITER), 2 SLEEPER (s, 115; a WAITER)",
        "3 LOVER (l, 108; a WAITER), 4 RAM (r, 114; a PUSHER), 5 DREAMER (d, 100; a SLEEPER)"})
    static void promise11_kindsByLetters() {
        int[] letters = {119, 112, 115, 108, 114, 100};
        MoonLine x = new MoonLine();
        x.text(0, 18);
        for (int kind = 0; kind < 6; kind++) {
            x.put(0, 3 * kind, letters[kind]);
            x.put(0, 3 * kind + 1, '1' + kind);
            x.put(0, 3 * kind + 2, '9' - kind);
        }
        due.is(x, "line(0)", 6);
        for (int kind = 0; kind < 6; kind++) {
            due.person(x, kind, 0, kind);
            due.person(x, kind, 1, kind + 1);
            due.person(x, kind, 2, 9 - kind);
            due.person(x, kind, 3, kind);
        }
    }

    @Says("(anew: NIGHT 0, no DEEDS")
    static void promise11_anew() {
        MoonLine x = Due.line("w92 w25 w11");
        x.trade(0, 1);
        x.night(1);
        x.night(1);
        due.is(x, "line(0)", 3);
        due.is(x, "count(1)", 0);
        due.is(x, "count(2)", 0);
        due.is(x, "count(4)", 0);
        due.is(x, "count(5)", 0);
        due.order(x, 0, 1, 2);
        for (int i = 0; i < 3; i++) {
            due.person(x, i, 4, 0);
            due.person(x, i, 5, NONE);
            due.person(x, i, 6, 0);
        }
        due.refused(x, "undo(1)", BAD);
    }

    @Says("A LINE by a TEXT (anew")
    static void promise11_pricesAnewToo() {
        MoonLine x = Due.line("w92");
        x.price(0, 7);
        x.line(0);
        due.person(x, 0, 2, 2);
    }

    @Says("A LINE by a TEXT (anew")
    static void promise11_roomForDeedsAnew() {
        MoonLine x = Due.line("w92");
        x.lots(20, 1);
        x.lots(20, 1);
        due.refused(x, "night(0)", MoonLine.FULL);
        x.line(0);
        due.is(x, "night(1)", 0);
    }

    @Says("kept LINES go")
    static void promise11_keptLinesGo() {
        MoonLine x = Due.line("w92");
        x.keep(0);
        x.keep(1);
        x.keep(2);
        x.line(0);
        due.is(x, "count(10)", 0);
        for (int k = 0; k <= 2; k++) {
            due.finds(x, "on(" + k + ")", Due.NOTHING);
        }
    }

    @Says("A LINE by a TEXT")
    static void promise11_aLaterPutDoesNotChangeIt() {
        MoonLine x = Due.line("w92");
        x.put(0, 0, 's');
        due.person(x, 0, 0, 0);
        x.text(0, 0);
        due.is(x, "count(0)", 1);
    }

    @Says("BAD")
    static void promise11_noSuchTextIsBad() {
        MoonLine x = Due.line("w92");
        Due.write(x, 3, "w11");
        for (int t : Due.outside(0, 3)) {
            due.refused(x, "line(" + t + ")", BAD);
        }
    }

    @Says("NOTHING")
    static void promise11_aMissingText() {
        MoonLine x = Due.line("w92");
        due.finds(x, "line(1)", Due.NOTHING);
        due.finds(x, "line(3)", Due.NOTHING);
    }

    @Says("STATE: a FAULT")
    static void promise11_aFaultIsState() {
        MoonLine x = Due.line("w92 p31");
        x.night(1);
        x.keep(1);
        String[] faulty = {"", "   ", "s3", "s33 x", "s03", SEVEN + "s33"};
        for (String signs : faulty) {
            Due.write(x, 1, signs);
            due.refused(x, "line(1)", STATE);
        }
        due.person(x, 1, 0, 1);
        due.is(x, "on(1)", 1);
    }

    @Says("(STATE behind NOTHING.)")
    static void promise11_stateBehindNothing() {
        MoonLine x = new MoonLine();
        due.finds(x, "line(0)", Due.NOTHING);
        x.text(0, 0);
        due.refused(x, "line(0)", STATE);
    }

    // ---- 12 person

    @Says({"0 the KIND, 1 PATIENCE, 2 the PRICE, 3 the place in the LINE (0 ..", "told by asked(): 1"})
    static void promise12_atFirst() {
        MoonLine x = Due.line("w92 l31 s13");
        int[][] told = {{0, 9, 2, 0, 0, NONE, 0}, {3, 3, 1, 1, 0, NONE, 0}, {2, 1, 3, 2, 0, NONE, 0}};
        for (int i = 0; i < 3; i++) {
            for (int what = 0; what <= 6; what++) {
                due.person(x, i, what, told[i][what]);
            }
        }
    }

    @Says({"NONE: out of it", "5 the NIGHT in which it WENT"})
    static void promise12_whoWent() {
        MoonLine x = Due.line("w92 l31 s13");
        x.night(0);
        x.night(1);
        due.person(x, 0, 3, NONE);
        due.person(x, 0, 4, 1);
        due.person(x, 0, 5, 1);
        due.person(x, 0, 6, 0);
        due.person(x, 0, 0, 0);
        due.person(x, 0, 1, 9);
        due.person(x, 0, 2, 2);
        MoonLine y = Due.line("w10");
        y.night(1);
        due.person(y, 0, 4, 0);
        due.person(y, 0, 5, 0);
    }

    @Says({"NONE: out of it", "(NONE: not)", "6 whether it GAVE UP (1, 0)"})
    static void promise12_whoGaveUp() {
        MoonLine x = Due.line("w92 w20 s13");
        x.night(0);
        due.person(x, 2, 3, NONE);
        due.person(x, 2, 4, 1);
        due.person(x, 2, 5, NONE);
        due.person(x, 2, 6, 1);
        x.night(0);
        due.person(x, 1, 6, 1);
        due.person(x, 1, 4, 2);
        due.person(x, 2, 4, 1);
    }

    @Says({"4 how many NIGHTS it waited", "(NONE: not)"})
    static void promise12_whoStandsYet() {
        MoonLine x = Due.line("w92 w20 w90");
        x.night(1);
        due.person(x, 2, 3, 1);
        due.person(x, 2, 4, 1);
        due.person(x, 2, 5, NONE);
        due.person(x, 2, 6, 0);
    }

    @Says("BAD")
    static void promise12_noSuchPersonIsBad() {
        MoonLine x = Due.line("w92 l31 s13");
        for (int i : Due.outside(0, 2)) {
            due.refused(x, "person(" + i + ", 0)", BAD);
        }
        MoonLine y = Due.line(SEVEN);
        due.person(y, 6, 2, 9);
        due.refused(y, "person(7, 0)", BAD);
        due.refused(new MoonLine(), "person(0, 0)", BAD);
    }

    @Says("BAD")
    static void promise12_noSuchNumberIsBad() {
        MoonLine x = Due.line("w92 l31 s13");
        for (int what : Due.outside(0, 6)) {
            due.refused(x, "person(0, " + what + ")", BAD);
        }
    }

    // ---- 13 mark

    @Says("a PUSHER (RAM, too) how many are ASLEEP ahead of it")
    static void promise13_aPusher() {
        MoonLine x = Due.line("d90 s90 r90 l90 d90 p90");
        due.aside(x, "mark(5, 1)", 1);
        due.aside(x, "mark(2, 1)", 1);
        x.night(0);
        // in NIGHT 0 the RAM went ahead of the SLEEPER: d r s l d p; now DREAMERS are ASLEEP
        due.is(x, "mark(5, 1)", 3);
        due.is(x, "mark(2, 1)", 1);
        due.is(Due.line("p90 s90"), "mark(0, 1)", 0);
        due.is(Due.line("s90 w90 s90 w90 s90 s90 p90"), "mark(6, 1)", 4);
    }

    @Says("a SLEEPER (DREAMER, too) how many behind it are not ASLEEP")
    static void promise13_aSleeper() {
        MoonLine x = Due.line("d90 s90 w90 l90 d90 p90");
        due.aside(x, "mark(1, 2)", 4);
        due.aside(x, "mark(0, 2)", 4);
        due.aside(x, "mark(4, 2)", 1);
        MoonLine y = Due.line("s90 d90 w90 d90 s90");
        due.is(y, "mark(0, 2)", 3);
        due.is(y, "mark(4, 2)", 0);
        y.night(0);
        due.is(y, "mark(0, 2)", 1);
        due.is(y, "mark(1, 2)", 1);
        due.is(y, "mark(3, 2)", 0);
    }

    @Says("a LOVER who would GO in its place, if it was its turn")
    static void promise13_aLover() {
        MoonLine x = Due.line("w90 l90 s90 d90 l90 w90");
        due.aside(x, "mark(1, 3)", 3);
        due.is(x, "mark(4, 3)", 5);
        x.night(0);
        due.is(x, "mark(1, 3)", 4);
    }

    @Says("(NONE: nobody)")
    static void promise13_aLoverWithNobodyAwakeBehind() {
        due.is(Due.line("w90 l90"), "mark(1, 3)", NONE);
        due.is(Due.line("w90 l90 s90"), "mark(1, 3)", NONE);
        MoonLine x = Due.line("l90 d90");
        due.is(x, "mark(0, 3)", 1);
        x.night(0);
        due.is(x, "mark(0, 3)", NONE);
    }

    @Says("a RAM how many places it would come ahead this NIGHT, if nobody else pushed (0 .. 2)")
    static void promise13_aRam() {
        due.is(Due.line("r90"), "mark(0, 4)", 0);
        due.is(Due.line("s90 r90"), "mark(1, 4)", 1);
        due.is(Due.line("w90 r90"), "mark(1, 4)", 0);
        due.is(Due.line("s90 w90 r90"), "mark(2, 4)", 0);
        due.is(Due.line("w90 s90 r90"), "mark(2, 4)", 1);
        due.is(Due.line("s90 s90 r90"), "mark(2, 4)", 2);
        due.aside(Due.line("s90 s90 s90 r90"), "mark(3, 4)", 2);
    }

    @Says("if nobody else pushed")
    static void promise13_aRamIfNobodyElsePushed() {
        // the PUSHER would take the SLEEPER behind it: then the RAM would come two places ahead
        due.is(Due.line("s90 p90 s90 r90"), "mark(3, 4)", 1);
        due.is(Due.line("s90 p90 r90"), "mark(2, 4)", 0);
    }

    @Says("this NIGHT")
    static void promise13_aRamBehindADreamer() {
        MoonLine x = Due.line("d90 w90 d90 d90 r90");
        due.is(x, "mark(4, 4)", 0);
        x.night(0);
        due.is(x, "mark(4, 4)", 2);
    }

    @Says("a DREAMER in how many NIGHTS it is next awake (0: now)")
    static void promise13_aDreamer() {
        MoonLine x = Due.line("d90 d90");
        int[] nights = {0, 2, 1, 0, 2, 1, 0};
        for (int k = 0; k < nights.length; k++) {
            due.is(x, "mark(0, 5)", nights[k]);
            due.is(x, "mark(1, 5)", nights[k]);
            x.night(0);
        }
    }

    @Says("Out of the LINE: NONE")
    static void promise13_whoWentTellsNone() {
        String kinds = "wpslrd";
        for (int kind = 1; kind <= 5; kind++) {
            if (kind == 2) {
                continue;
            }
            MoonLine x = Due.line(kinds.charAt(kind) + "90 s90");
            due.is(x, "night(1)", 0);
            due.is(x, "mark(0, " + kind + ")", NONE);
        }
    }

    @Says("Out of the LINE: NONE")
    static void promise13_whoGaveUpTellsNone() {
        String kinds = "wpslrd";
        for (int kind = 1; kind <= 5; kind++) {
            MoonLine x = Due.line("w90 " + kinds.charAt(kind) + "10 s90");
            x.night(0);
            due.is(x, "mark(1, " + kind + ")", NONE);
        }
        MoonLine x = Due.line("r10 d10");
        x.night(0);
        due.is(x, "mark(0, 1)", NONE);
        due.is(x, "mark(1, 2)", NONE);
    }

    @Says("BAD: also KIND 0")
    static void promise13_kind0IsBad() {
        MoonLine x = Due.line("w90 p90 s90");
        due.refused(x, "mark(0, 0)", BAD);
        due.refused(x, "mark(1, 0)", BAD);
    }

    @Says("BAD")
    static void promise13_noSuchKindOrPersonIsBad() {
        MoonLine x = Due.line("w90 p90 d90");
        for (int kind : Due.outside(1, 5)) {
            due.refused(x, "mark(2, " + kind + ")", BAD);
        }
        for (int i : Due.outside(0, 2)) {
            due.refused(x, "mark(" + i + ", 1)", BAD);
        }
        due.refused(new MoonLine(), "mark(0, 1)", BAD);
    }

    @Says({"UNLIKE", "3 UNLIKE (a PERSON of another KIND", "What a PERSON that IS of a KIND tells"})
    static void promise13_anotherKindIsUnlike() {
        int[] isOf = {0, 1 << 1, 1 << 2, 1 << 3, 1 << 1 | 1 << 4, 1 << 2 | 1 << 5};
        for (int i = 0; i < 6; i++) {
            MoonLine x = Due.line("w90 p90 s90 l90 r90 d90");
            for (int kind = 1; kind <= 5; kind++) {
                String call = "mark(" + i + ", " + kind + ")";
                if ((isOf[i] >> kind & 1) == 0) {
                    due.finds(x, call, Due.UNLIKE);
                } else {
                    due.is(call + " is told", Due.call(x, call) >= 0 ? 1 : 0, 1);
                }
            }
        }
    }

    @Says("UNLIKE")
    static void promise13_anotherKindOutOfTheLineToo() {
        MoonLine x = Due.line("p90 s10");
        x.night(1);
        due.finds(x, "mark(0, 4)", Due.UNLIKE);
        due.finds(x, "mark(1, 5)", Due.UNLIKE);
    }

    // ---- 14 price

    @Says("The PRICE of a PERSON is v (0 .. 9): what it was")
    static void promise14_whatItWas() {
        MoonLine x = Due.line("w92 p91");
        due.is(x, "price(0, 9)", 2);
        due.is(x, "price(0, 0)", 9);
        due.is(x, "price(0, 5)", 0);
        due.person(x, 0, 2, 5);
        due.person(x, 1, 2, 1);
        due.is(x, "count(2)", 0);
    }

    @Says("The PRICE of a PERSON")
    static void promise14_outOfTheLineToo() {
        MoonLine x = Due.line("w92 p11");
        x.night(1);
        due.is(x, "price(0, 3)", 2);
        due.is(x, "price(1, 4)", 1);
        due.person(x, 0, 2, 3);
        due.person(x, 1, 2, 4);
    }

    @Says({"BAD", "(0 .. 9)"})
    static void promise14_noSuchPriceIsBad() {
        MoonLine x = Due.line("w92 p91");
        for (int v : Due.outside(0, 9)) {
            due.refused(x, "price(0, " + v + ")", BAD);
        }
    }

    @Says("BAD")
    static void promise14_noSuchPersonIsBad() {
        MoonLine x = Due.line("w92 p91");
        for (int i : Due.outside(0, 1)) {
            due.refused(x, "price(" + i + ", 1)", BAD);
        }
        due.refused(new MoonLine(), "price(0, 1)", BAD);
    }
}
