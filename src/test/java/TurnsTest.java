/** Promises 20 to 26: tonight, turn, after, soonest, rows, odds, mid. */
public final class TurnsTest {
    private static final int NONE = MoonLine.NONE, BAD = MoonLine.BAD;
    private static final Due due = new Due();

    public static void main(String[] args) {
        due.run(TurnsTest.class);
    }

    // ---- 20 tonight

    @Says("Who would GO this NIGHT, if it was CLEAR")
    static void promise20_whoWouldGo() {
        MoonLine x = Due.line("d90 l90 w90 w90");
        due.aside(x, "tonight()", 0);
        x.night(0);
        due.aside(x, "tonight()", 2);
        due.is(x, "night(1)", 2);
        due.aside(x, "tonight()", 3);
    }

    @Says("(NONE: nobody)")
    static void promise20_nobodyWouldGo() {
        due.is(Due.line("s90 s90"), "tonight()", NONE);
        due.is(new MoonLine(), "tonight()", NONE);
        MoonLine x = Due.line("w90");
        x.night(1);
        due.is(x, "tonight()", NONE);
    }

    @Says("who would GIVE UP at its end by asked() (bits)")
    static void promise20_whoWouldGiveUp() {
        MoonLine x = Due.line("w10 w10 s10 w20 w90");
        due.asks(x, "tonight()", 0, 1 << 1 | 1 << 2);
        MoonLine y = Due.line("s90 w90 w90 w90 w90 w90 s10");
        due.asks(y, "tonight()", 1, 1 << 6);
    }

    @Says("who would GIVE UP at its end")
    static void promise20_whoWouldGoDoesNotGiveUp() {
        due.asks(Due.line("w10"), "tonight()", 0, 0);
        due.asks(Due.line("l10 w10"), "tonight()", 1, 1);
    }

    @Says("who would GIVE UP at its end")
    static void promise20_notThoseThatDid() {
        MoonLine x = Due.line("s10 s20 w90 w90");
        x.night(1);
        due.asks(x, "tonight()", 3, 1 << 1);
        x.night(0);
        due.asks(x, "tonight()", 3, 0);
    }

    @Says("who would GIVE UP at its end by asked()")
    static void promise20_whoWouldGiveUpIfNobodyGoes() {
        MoonLine x = Due.line("s10 s90 s10");
        due.asks(x, "tonight()", NONE, 5);
        MoonLine y = new MoonLine();
        Due.fill(y, 0, 7);
        y.at(0, 0);
        due.asks(y, "tonight()", NONE, 0);
    }

    // ---- 21 turn

    @Says("In how many NIGHTS (0: this one) a PERSON GOES by NIGHTS in a ROW")
    static void promise21_inHowManyNights() {
        MoonLine x = Due.line("w90 w20 w90 d90");
        Due.nights(x, 0, "01011");
        due.aside(x, "turn(0, 0)", 1);
        due.aside(x, "turn(2, 0)", 3);
        Due.nights(x, 1, "1111");
        due.aside(x, "turn(0, 1)", 0);
        due.aside(x, "turn(3, 1)", 3);
    }

    @Says("NIGHTS told in a ROW: 1 (CLEAR) or 0 each, from this NIGHT on")
    static void promise21_fromThisNightOn() {
        MoonLine x = Due.line("w90 w90 d90");
        Due.nights(x, 0, "1111");
        x.night(1);
        due.is(x, "turn(1, 0)", 0);
        // NIGHT 3 is two NIGHTS behind NIGHT 1
        due.is(x, "turn(2, 0)", 2);
    }

    @Says("NONE: in none of these")
    static void promise21_inNoneOfThese() {
        MoonLine x = Due.line("w90 w20 w90 s90");
        Due.nights(x, 0, "0101");
        due.is(x, "turn(1, 0)", NONE);
        due.is(x, "turn(3, 0)", NONE);
        Due.nights(x, 0, "00");
        due.is(x, "turn(0, 0)", NONE);
        x.night(1);
        Due.nights(x, 0, "1");
        due.is(x, "turn(0, 0)", NONE);
    }

    @Says("(0 to 20)")
    static void promise21_noNights() {
        MoonLine x = Due.line("w90");
        x.row(0, 0);
        due.is(x, "turn(0, 0)", NONE);
    }

    @Says("(0 to 20)")
    static void promise21_20Nights() {
        MoonLine x = Due.line("w90");
        Due.nights(x, 0, "00000001000000000000");
        due.is(x, "turn(0, 0)", 7);
        Due.nights(x, 0, "00000000000000000001");
        due.is(x, "turn(0, 0)", NONE);
    }

    @Says("BAD")
    static void promise21_noSuchNumberIsBad() {
        MoonLine x = Due.line("w90 w90");
        x.row(0, 1);
        x.row(5, 1);
        for (int i : Due.outside(0, 1)) {
            due.refused(x, "turn(" + i + ", 0)", BAD);
        }
        for (int r : Due.outside(0, 5)) {
            due.refused(x, "turn(0, " + r + ")", BAD);
        }
        MoonLine y = new MoonLine();
        y.row(0, 1);
        due.refused(y, "turn(0, 0)", BAD);
    }

    @Says("NOTHING")
    static void promise21_aMissingRow() {
        MoonLine x = Due.line("w90 w90");
        x.row(1, 1);
        due.finds(x, "turn(0, 0)", Due.NOTHING);
        due.finds(x, "turn(1, 5)", Due.NOTHING);
    }

    @Says({"SIZE", "5 SIZE (fewer than none; too many"})
    static void promise21_moreThan20IsSize() {
        MoonLine x = Due.line("w90 w90");
        x.row(0, 21);
        x.row(1, 40);
        due.finds(x, "turn(0, 0)", Due.SIZE);
        due.finds(x, "turn(0, 1)", Due.SIZE);
    }

    @Says({"UNLIKE", "a number that is none"})
    static void promise21_neitherClearNorNotIsUnlike() {
        MoonLine x = Due.line("w90 w90");
        for (int v : Due.outside(0, 1)) {
            Due.fill(x, 0, 0, 1, v);
            due.finds(x, "turn(0, 0)", Due.UNLIKE);
            Due.fill(x, 0, v, 1, 1);
            due.finds(x, "turn(0, 0)", Due.UNLIKE);
        }
        Due.nights(x, 0, "00000000000000000002");
        due.finds(x, "turn(0, 0)", Due.UNLIKE);
    }

    @Says("(In this order.)")
    static void promise21_theOrderOfRefusals() {
        MoonLine x = Due.line("w90 w90");
        due.refused(x, "turn(2, 0)", BAD);
        Due.fill(x, 1, 3);
        due.refused(x, "turn(2, 1)", BAD);
        x.row(0, 21);
        x.lay(0, 0, 7);
        due.refused(x, "turn(-1, 0)", BAD);
        due.finds(x, "turn(0, 0)", Due.SIZE);
        due.finds(x, "turn(0, 2)", Due.NOTHING);
    }

    // ---- 22 after

    @Says("Who is in the LINE behind NIGHTS in a ROW (bits)")
    static void promise22_whoIsInTheLine() {
        MoonLine x = Due.line("w90 w20 w90 s30 w90 w90 w90");
        Due.nights(x, 0, "10");
        due.aside(x, "after(0)", 1 << 2 | 1 << 3 | 1 << 4 | 1 << 5 | 1 << 6);
        Due.nights(x, 0, "1111111");
        due.aside(x, "after(0)", 0);
    }

    @Says("who GAVE UP by asked() (bits; all that did)")
    static void promise22_allThatGaveUp() {
        MoonLine x = Due.line("w90 w20 w90 s30");
        x.night(0);
        x.night(0);
        Due.nights(x, 0, "1");
        due.asks(x, "after(0)", 1 << 2, 1 << 1 | 1 << 3);
        Due.nights(x, 0, "0");
        due.asks(x, "after(0)", 1 | 1 << 2, 1 << 1 | 1 << 3);
    }

    @Says("behind NIGHTS in a ROW")
    static void promise22_behindNoNights() {
        MoonLine x = Due.line("w90 w10 w90");
        x.row(0, 0);
        due.asks(x, "after(0)", 7, 0);
        x.night(0);
        due.asks(x, "after(0)", 5, 2);
    }

    @Says("SIZE: more than 20")
    static void promise22_behind20Nights() {
        MoonLine x = Due.line("w90 s90");
        x.row(0, 20);
        due.asks(x, "after(0)", 0, 3);
        x.row(0, 21);
        due.finds(x, "after(0)", Due.SIZE);
        x.row(0, 40);
        due.finds(x, "after(0)", Due.SIZE);
    }

    @Says("Who is in the LINE behind NIGHTS in a ROW")
    static void promise22_withoutPersons() {
        MoonLine x = new MoonLine();
        Due.nights(x, 0, "01");
        due.asks(x, "after(0)", 0, 0);
    }

    @Says("BAD")
    static void promise22_noSuchRowIsBad() {
        MoonLine x = Due.line("w90 w90");
        x.row(0, 1);
        x.row(5, 1);
        for (int r : Due.outside(0, 5)) {
            due.refused(x, "after(" + r + ")", BAD);
        }
    }

    @Says("NOTHING")
    static void promise22_aMissingRow() {
        MoonLine x = Due.line("w90 w90");
        due.finds(x, "after(0)", Due.NOTHING);
        due.finds(x, "after(5)", Due.NOTHING);
    }

    @Says("UNLIKE")
    static void promise22_neitherClearNorNotIsUnlike() {
        MoonLine x = Due.line("w90 w90");
        for (int v : Due.outside(0, 1)) {
            Due.fill(x, 0, 0, 1, v);
            due.finds(x, "after(0)", Due.UNLIKE);
            Due.fill(x, 0, v, 1, 1);
            due.finds(x, "after(0)", Due.UNLIKE);
        }
        Due.nights(x, 0, "00000000000000000002");
        due.finds(x, "after(0)", Due.UNLIKE);
    }

    @Says("(In this order.)")
    static void promise22_sizeAheadOfUnlike() {
        MoonLine x = Due.line("w90 w90");
        x.row(0, 21);
        x.lay(0, 0, 7);
        due.finds(x, "after(0)", Due.SIZE);
    }

    // ---- 23 soonest

    @Says("In how many NIGHTS a PERSON GOES at the soonest, whichever of the next n (1 .. 10) are CLEAR")
    static void promise23_theSoonest() {
        MoonLine x = Due.line("w90 w30 s90 d90");
        due.aside(x, "soonest(0, 1)", 0);
        due.aside(x, "soonest(1, 10)", 1);
        due.aside(x, "soonest(3, 4)", 3);
        x.night(1);
        due.aside(x, "soonest(1, 5)", 0);
        due.aside(x, "soonest(3, 5)", 2);
    }

    @Says("whichever of the next n (1 .. 10) are CLEAR")
    static void promise23_byCloudsToo() {
        // a WAITER that stays keeps the PUSHERS from going ahead of the DREAMER
        MoonLine x = Due.line("d90 w90 p90 p90");
        x.night(0);
        Due.nights(x, 0, "111111");
        due.is(x, "turn(0, 0)", 5);
        due.is(x, "soonest(0, 6)", 2);
    }

    @Says("NONE: by none of these")
    static void promise23_byNoneOfThese() {
        MoonLine x = Due.line("w90 w30 s90 d90");
        due.is(x, "soonest(1, 1)", NONE);
        due.is(x, "soonest(2, 10)", NONE);
        due.is(x, "soonest(3, 3)", NONE);
        x.night(1);
        due.is(x, "soonest(0, 5)", NONE);
        MoonLine y = Due.line("w90 w10");
        due.is(y, "soonest(1, 10)", NONE);
        y.night(0);
        due.is(y, "soonest(1, 10)", NONE);
    }

    @Says("(1 .. 10)")
    static void promise23_10Nights() {
        MoonLine x = Due.line("w90 w90 w90 w90 w90 w90 d90");
        due.is(x, "soonest(6, 6)", NONE);
        due.is(x, "soonest(6, 7)", 6);
        due.is(x, "soonest(6, 10)", 6);
        MoonLine y = Due.line("s90 d90");
        y.night(0);
        due.is(y, "soonest(1, 2)", NONE);
        due.is(y, "soonest(1, 3)", 2);
    }

    @Says("BAD")
    static void promise23_noSuchNumberIsBad() {
        MoonLine x = Due.line("w90 w90");
        for (int i : Due.outside(0, 1)) {
            due.refused(x, "soonest(" + i + ", 1)", BAD);
        }
        for (int n : Due.outside(1, 10)) {
            due.refused(x, "soonest(0, " + n + ")", BAD);
        }
        due.refused(new MoonLine(), "soonest(0, 1)", BAD);
    }

    // ---- 24 rows

    @Says("By how many of all rows of n (1 .. 10) NIGHTS it GOES within these")
    static void promise24_howManyRows() {
        MoonLine x = Due.line("w90 w30 s90 d90");
        due.aside(x, "rows(0, 1)", 1);
        due.aside(x, "rows(0, 3)", 7);
        // 1 GOES if two of the first three NIGHTS are CLEAR
        due.aside(x, "rows(1, 3)", 4);
        due.aside(x, "rows(1, 10)", 512);
        // 3 is awake in NIGHTS 0 and 3: in 3 it GOES, if that is CLEAR and 0 WENT ahead (1 is out by then)
        due.aside(x, "rows(3, 4)", 7);
    }

    @Says("it GOES within these")
    static void promise24_byNone() {
        MoonLine x = Due.line("w90 w90 s90");
        due.is(x, "rows(1, 1)", 0);
        due.is(x, "rows(2, 10)", 0);
        x.night(1);
        due.is(x, "rows(0, 10)", 0);
    }

    @Says("(1 .. 10)")
    static void promise24_10Nights() {
        // not by those rows whose first nine NIGHTS are not CLEAR: then it GIVES UP
        due.is(Due.line("w90"), "rows(0, 10)", 1024 - 2);
        due.is(Due.line("w90"), "rows(0, 9)", 512 - 1);
        due.is(Due.line("w10"), "rows(0, 10)", 512);
    }

    @Says("BAD")
    static void promise24_noSuchNumberIsBad() {
        MoonLine x = Due.line("w90 w90");
        for (int i : Due.outside(0, 1)) {
            due.refused(x, "rows(" + i + ", 1)", BAD);
        }
        for (int n : Due.outside(1, 10)) {
            due.refused(x, "rows(0, " + n + ")", BAD);
        }
        due.refused(new MoonLine(), "rows(0, 1)", BAD);
    }

    // ---- 25 odds

    @Says("Chances that a PERSON GOES within n (0 .. 10) NIGHTS, told by upper(), lower(): 1")
    static void promise25_chances() {
        MoonLine x = Due.line("w90 w30 s90");
        due.tells(x, "odds(0, 2, 3)", 7, 16);
        // two or three of three
        due.tells(x, "odds(1, 10, 4)", 7, 27);
        due.tells(x, "odds(2, 10, 4)", 0, 1);
        due.aside(x, "odds(0, 3, 5)", 1);
    }

    @Says("in lowest terms")
    static void promise25_inLowestTerms() {
        MoonLine x = Due.line("w90 w90");
        due.tells(x, "odds(0, 1, 6)", 1, 2);
        due.tells(x, "odds(0, 1, 8)", 2, 3);
        due.tells(x, "odds(0, 1, 5)", 5, 12);
        due.tells(x, "odds(1, 2, 6)", 1, 4);
    }

    @Says("the lower number above 0 (0 by 1)")
    static void promise25_noChanceIs0By1() {
        MoonLine x = Due.line("w90 w90 s90");
        x.odds(0, 1, 5);
        due.tells(x, "odds(1, 1, 5)", 0, 1);
        x.odds(0, 1, 5);
        due.tells(x, "odds(2, 10, 7)", 0, 1);
        x.odds(0, 1, 5);
        x.night(1);
        due.tells(x, "odds(0, 3, 7)", 0, 1);
    }

    @Says("within n (0 .. 10) NIGHTS")
    static void promise25_withinNoNights() {
        MoonLine x = Due.line("w90");
        x.odds(0, 1, 5);
        due.tells(x, "odds(0, 0, 12)", 0, 1);
    }

    @Says("within n (0 .. 10) NIGHTS")
    static void promise25_within10Nights() {
        // 12 to the ninth less 11 to the ninth, by 12 to the ninth: in the ninth NIGHT it GIVES UP
        due.tells(Due.line("w90"), "odds(0, 10, 1)", 5159780352L - 2357947691L, 5159780352L);
        due.tells(Due.line("w90"), "odds(0, 9, 1)", 5159780352L - 2357947691L, 5159780352L);
        due.tells(Due.line("w10"), "odds(0, 10, 11)", 11, 12);
    }

    @Says("each NIGHT is CLEAR by p of 12")
    static void promise25_pOf12() {
        MoonLine x = Due.line("w90 w90");
        due.tells(x, "odds(0, 10, 0)", 0, 1);
        due.tells(x, "odds(0, 1, 1)", 1, 12);
        due.tells(x, "odds(0, 1, 11)", 11, 12);
        due.tells(x, "odds(0, 10, 12)", 1, 1);
        due.tells(x, "odds(1, 1, 12)", 0, 1);
        due.tells(x, "odds(1, 2, 12)", 1, 1);
    }

    @Says("BAD")
    static void promise25_noSuchNumberIsBad() {
        MoonLine x = Due.line("w90 w90");
        x.odds(0, 1, 5);
        for (int i : Due.outside(0, 1)) {
            due.refused(x, "odds(" + i + ", 1, 1)", BAD);
        }
        for (int n : Due.outside(0, 10)) {
            due.refused(x, "odds(0, " + n + ", 1)", BAD);
        }
        for (int p : Due.outside(0, 12)) {
            due.refused(x, "odds(0, 1, " + p + ")", BAD);
        }
        due.refused(new MoonLine(), "odds(0, 1, 1)", BAD);
    }

    // ---- 26 mid

    @Says("The mean of how many GO within n (0 .. 10) NIGHTS: 1")
    static void promise26_theMean() {
        MoonLine x = Due.line("w90 w90 s90");
        due.tells(x, "mid(1, 5)", 5, 12);
        // 0, 1, 2, 2 of 3 NIGHTS: (3 * 1 + 3 * 2 + 2) by 8
        due.tells(x, "mid(3, 6)", 11, 8);
        due.tells(x, "mid(2, 6)", 1, 1);
        due.aside(x, "mid(3, 5)", 1);
        x.night(1);
        due.tells(x, "mid(2, 6)", 3, 4);
    }

    @Says("within n (0 .. 10) NIGHTS")
    static void promise26_withinNoNights() {
        MoonLine x = Due.line("w90 w90");
        x.odds(0, 1, 5);
        due.tells(x, "mid(0, 3)", 0, 1);
    }

    @Says("within n (0 .. 10) NIGHTS")
    static void promise26_within10Nights() {
        MoonLine x = Due.line("w90 w90 w90 w90 w90 w90 w90");
        due.tells(x, "mid(10, 12)", 7, 1);
        due.tells(x, "mid(6, 12)", 6, 1);
        // one that goes unless nine NIGHTS are not CLEAR
        due.tells(Due.line("w90"), "mid(10, 1)", 5159780352L - 2357947691L, 5159780352L);
    }

    @Says("each NIGHT is CLEAR by p of 12")
    static void promise26_pOf12() {
        MoonLine x = Due.line("w90 w90");
        due.tells(x, "mid(5, 0)", 0, 1);
        due.tells(x, "mid(1, 1)", 1, 12);
        due.tells(x, "mid(1, 11)", 11, 12);
        due.tells(x, "mid(2, 12)", 2, 1);
    }

    @Says("the lower number above 0 (0 by 1)")
    static void promise26_withoutPersons() {
        MoonLine x = new MoonLine();
        due.tells(x, "mid(3, 4)", 0, 1);
        MoonLine y = Due.line("s90 s90");
        y.odds(0, 1, 1);
        due.tells(y, "mid(3, 4)", 0, 1);
    }

    @Says("BAD")
    static void promise26_noSuchNumberIsBad() {
        MoonLine x = Due.line("w90 w90");
        x.odds(0, 1, 5);
        for (int n : Due.outside(0, 10)) {
            due.refused(x, "mid(" + n + ", 1)", BAD);
        }
        for (int p : Due.outside(0, 12)) {
            due.refused(x, "mid(1, " + p + ")", BAD);
        }
    }
}
