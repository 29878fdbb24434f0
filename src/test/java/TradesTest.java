/** Promises 27 to 30: push, pair, cheap, game. */
public final class TradesTest {
    private static final int NONE = MoonLine.NONE, BAD = MoonLine.BAD;
    private static final Due due = new Due();

    public static void main(String[] args) {
        due.run(TradesTest.class);
    }

    // ---- 27 push

    @Says("The fewest TRADES (0 .. 3) by which a PERSON GOES within n CLEAR NIGHTS")
    static void promise27_theFewestTrades() {
        MoonLine x = Due.line("w90 w90 w90 w90 w90");
        due.is(x, "push(0, 1, 0)", 0);
        due.is(x, "push(1, 1, 0)", 1);
        due.is(x, "push(2, 1, 0)", 2);
        due.is(x, "push(3, 1, 0)", 3);
        due.is(x, "push(4, 2, 0)", 3);
        due.is(x, "push(4, 4, 0)", 1);
        due.is(x, "push(4, 5, 0)", 0);
        due.order(x, 0, 1, 2, 3, 4);
        due.is(x, "count(2)", 0);
    }

    @Says({"the first row of these comes to a ROW (anew)", "it is told by the place of the one ahead"})
    static void promise27_theRowOfTrades() {
        MoonLine x = Due.line("w90 w90 w90 w90 w90");
        Due.fill(x, 5, 7, 7, 7, 7);
        x.push(3, 1, 5);
        due.row(x, 5, 2, 1, 0);
        x.push(4, 2, 0);
        due.row(x, 0, 3, 2, 1);
        x.push(1, 1, 0);
        due.row(x, 0, 0);
    }

    @Says("comes to a ROW (anew)")
    static void promise27_aRowOfNoTrades() {
        MoonLine x = Due.line("w90 w90");
        Due.fill(x, 1, 4, 5);
        due.is(x, "push(0, 1, 1)", 0);
        due.row(x, 1);
        due.is(x, "push(1, 7, 2)", 0);
        due.row(x, 2);
        due.is(x, "count(8)", 2);
    }

    @Says("Rows of TRADES go by their first numbers, then second ones")
    static void promise27_theFirstRow() {
        // by 3 1 2 and 3 2 1 it GOES too
        MoonLine x = Due.line("w90 w90 l90 w90 w90");
        due.is(x, "push(4, 2, 1)", 3);
        due.row(x, 1, 1, 3, 2);
        MoonLine y = Due.line("l90 w90 w90");
        due.is(y, "push(2, 1, 1)", 1);
        due.row(y, 1, 1);
    }

    @Says("A TRADE aside is one of two who stand side by side")
    static void promise27_sideBySideInTheLineAsItIs() {
        MoonLine x = Due.line("w90 w90 w90 w90 w90");
        x.night(1);
        due.is(x, "push(4, 1, 5)", 3);
        due.row(x, 5, 2, 1, 0);
        x.trade(1, 4);
        due.is(x, "push(1, 1, 5)", 3);
        due.is(x, "push(4, 1, 5)", 0);
    }

    @Says("They are done ahead of this NIGHT")
    static void promise27_aheadOfThisNight() {
        // in NIGHT 2 the PUSHER would go ahead of the DREAMER, so one has to come between these two first;
        // behind the PUSHER's going ahead it would be another TRADE
        MoonLine x = Due.line("w90 d90 p90");
        x.night(0);
        x.night(0);
        x.trade(1, 2);
        due.order(x, 0, 1, 2);
        due.is(x, "push(1, 2, 0)", 1);
        due.row(x, 0, 0);
    }

    @Says("NONE: by none")
    static void promise27_byNone() {
        MoonLine x = Due.line("w90 w90 w90 w90 w90 s90");
        Due.fill(x, 1, 4, 5);
        due.aside(x, "push(4, 1, 1)", NONE);
        due.aside(x, "push(5, 7, 1)", NONE);
        due.aside(x, "push(5, 7, 2)", NONE);
        x.night(1);
        due.aside(x, "push(0, 7, 1)", NONE);
    }

    @Says("n 1 .. 7 CLEAR NIGHTS one behind the other from this one on")
    static void promise27_withinAllOf7Nights() {
        MoonLine x = Due.line("w90 w90 w90 w90 w90 w90 d90");
        due.is(x, "push(6, 7, 0)", 0);
        // in NIGHTS 4 and 5 it is ASLEEP, in NIGHT 3 three TRADES have to be done for it
        due.is(x, "push(6, 6, 0)", 3);
        due.is(x, "push(6, 3, 0)", NONE);
    }

    @Says("BAD")
    static void promise27_noSuchNumberIsBad() {
        MoonLine x = Due.line("w90 w90");
        for (int i : Due.outside(0, 1)) {
            due.refused(x, "push(" + i + ", 1, 0)", BAD);
        }
        for (int n : Due.outside(1, 7)) {
            due.refused(x, "push(0, " + n + ", 0)", BAD);
        }
        for (int r : Due.outside(0, 5)) {
            due.refused(x, "push(0, 1, " + r + ")", BAD);
        }
        due.refused(new MoonLine(), "push(0, 1, 0)", BAD);
    }

    // ---- 28 pair

    @Says("The fewest TRADES (0 .. 3) by which one GOES, and another one in the NIGHT behind it")
    static void promise28_theFewestTrades() {
        MoonLine x = Due.line("w90 w90 w90 s90");
        due.aside(x, "pair(0, 1, 2)", 0);
        due.aside(x, "pair(1, 2, 3)", 0);
        due.aside(x, "pair(1, 0, 2)", 1);
        due.aside(x, "pair(0, 2, 2)", 1);
        due.aside(x, "pair(1, 2, 2)", 2);
        due.aside(x, "pair(2, 1, 2)", 3);
    }

    @Says("within n CLEAR NIGHTS")
    static void promise28_bothWithinTheNights() {
        MoonLine x = Due.line("w90 w90 w90 w90 w90 w90 w90");
        due.is(x, "pair(5, 6, 7)", 0);
        due.is(x, "pair(5, 6, 6)", 2);
        due.is(x, "pair(0, 1, 1)", NONE);
        due.is(x, "pair(0, 1, 2)", 0);
    }

    @Says("in the NIGHT behind it")
    static void promise28_notTwoNightsBehind() {
        // the DREAMER is awake in NIGHTS 0 and 3 alone
        MoonLine x = Due.line("w90 s90 d90");
        due.is(x, "pair(0, 2, 7)", NONE);
        // ahead of the WAITER the DREAMER GOES in NIGHT 0
        due.is(x, "pair(2, 0, 7)", 2);
    }

    @Says("NONE: by none")
    static void promise28_byNone() {
        MoonLine x = Due.line("w90 w90 w90 s90");
        due.is(x, "pair(0, 3, 7)", NONE);
        due.is(x, "pair(3, 0, 7)", NONE);
        x.night(1);
        due.is(x, "pair(0, 1, 7)", NONE);
        due.is(x, "pair(1, 0, 7)", NONE);
        MoonLine y = Due.line("w90 w90 w90 w90 w90");
        due.is(y, "pair(4, 3, 2)", NONE);
        due.is(y, "pair(3, 4, 2)", NONE);
    }

    @Says("BAD: also the same")
    static void promise28_theSameIsBad() {
        MoonLine x = Due.line("w90 w90");
        due.refused(x, "pair(0, 0, 2)", BAD);
        due.refused(x, "pair(1, 1, 2)", BAD);
    }

    @Says("BAD")
    static void promise28_noSuchNumberIsBad() {
        MoonLine x = Due.line("w90 w90");
        for (int i : Due.outside(0, 1)) {
            due.refused(x, "pair(" + i + ", 1, 1)", BAD);
            due.refused(x, "pair(0, " + i + ", 1)", BAD);
        }
        for (int n : Due.outside(1, 7)) {
            due.refused(x, "pair(0, 1, " + n + ")", BAD);
        }
        due.refused(new MoonLine(), "pair(0, 1, 1)", BAD);
    }

    // ---- 29 cheap

    @Says("The least sum of PRICES (of each TRADE those of both)")
    static void promise29_theLeastSum() {
        MoonLine x = Due.line("w95 w91 w99 w92");
        due.aside(x, "cheap(0, 1)", 0);
        due.aside(x, "cheap(1, 1)", 5 + 1);
        due.aside(x, "cheap(2, 1)", 9 + 1 + 9 + 5);
        due.aside(x, "cheap(3, 2)", 2 + 9 + 2 + 1);
        due.aside(x, "cheap(3, 4)", 0);
        x.price(1, 0);
        due.aside(x, "cheap(3, 2)", 2 + 9 + 2 + 0);
    }

    @Says("The least sum of PRICES")
    static void promise29_moreTradesMayCostLess() {
        // by one TRADE of the first two, of whom the dear one then GIVES UP, 9; by two of the others nothing
        MoonLine x = Due.line("w10 w90 s90 w90");
        x.price(0, 9);
        due.is(x, "push(3, 2, 0)", 1);
        due.row(x, 0, 0);
        due.is(x, "cheap(3, 2)", 0);
    }

    @Says("of at most 3 TRADES")
    static void promise29_atMost3Trades() {
        MoonLine x = Due.line("w90 w90 w90 w90 w90");
        due.is(x, "cheap(3, 1)", 0);
        due.is(x, "cheap(4, 1)", NONE);
        MoonLine y = Due.line("w99 w99 w99 w99");
        due.is(y, "cheap(3, 1)", 54);
    }

    @Says("NONE: by none")
    static void promise29_byNone() {
        MoonLine x = Due.line("w90 w90 s90");
        due.is(x, "cheap(2, 7)", NONE);
        x.night(1);
        due.is(x, "cheap(0, 7)", NONE);
        MoonLine y = Due.line("w10 w90");
        y.night(0);
        due.is(y, "cheap(0, 7)", NONE);
    }

    @Says("within n CLEAR NIGHTS")
    static void promise29_withinAllOf7Nights() {
        MoonLine x = Due.line("w91 w91 w91 w91 w91 w91 w91");
        due.is(x, "cheap(6, 7)", 0);
        due.is(x, "cheap(6, 6)", 2);
        due.is(x, "cheap(6, 3)", NONE);
    }

    @Says("BAD")
    static void promise29_noSuchNumberIsBad() {
        MoonLine x = Due.line("w90 w90");
        for (int i : Due.outside(0, 1)) {
            due.refused(x, "cheap(" + i + ", 1)", BAD);
        }
        for (int n : Due.outside(1, 7)) {
            due.refused(x, "cheap(0, " + n + ")", BAD);
        }
        due.refused(new MoonLine(), "cheap(0, 1)", BAD);
    }

    // ---- 30 game

    @Says("whether the PERSON GOES in these, both playing best (1, 0)")
    static void promise30_whetherItGoes() {
        MoonLine x = Due.line("w90 w90 w90 w90 s90");
        due.aside(x, "game(0, 1)", 1);
        due.aside(x, "game(2, 1)", 0);
        due.aside(x, "game(3, 3)", 1);
        due.aside(x, "game(4, 4)", 0);
    }

    @Says({"By turns a cloud comes, or not (the NIGHT is CLEAR, or not), and a PERSON TRADES with who stands just ahead",
        "ahead of each NIGHT, the PERSON first"})
    static void promise30_thePersonFirst() {
        // it TRADES ahead of the NIGHT, then that is CLEAR
        MoonLine x = Due.line("w90 w90");
        due.is(x, "game(1, 1)", 1);
        due.is(x, "game(1, 2)", 1);
    }

    @Says("(if there is somebody)")
    static void promise30_nobodyIsAheadOfTheFirst() {
        MoonLine x = Due.line("l90 w90");
        due.is(x, "game(0, 1)", 0);
        due.is(x, "game(0, 2)", 0);
        due.is(x, "game(0, 3)", 1);
        due.is(Due.line("w90"), "game(0, 1)", 1);
    }

    @Says("or does not")
    static void promise30_notToTradeMayBeBest() {
        // a LOVER behind another one GOES in its place; ahead of it, the other one would GO
        MoonLine x = Due.line("l90 l90");
        due.is(x, "game(1, 1)", 1);
        due.is(x, "game(0, 1)", 0);
        due.is(Due.line("w90 l90 w90"), "game(1, 1)", 0);
    }

    @Says("of which half (cut) at most may be cloudy")
    static void promise30_halfOfTheNightsMayBeCloudy() {
        // of one NIGHT none, of two and of three one, of four two may be cloudy: it has so many NIGHTS' PATIENCE
        due.is(Due.line("w10"), "game(0, 1)", 1);
        due.is(Due.line("w10"), "game(0, 2)", 0);
        due.is(Due.line("w20"), "game(0, 2)", 1);
        due.is(Due.line("w10"), "game(0, 3)", 0);
        due.is(Due.line("w20"), "game(0, 3)", 1);
        due.is(Due.line("w20"), "game(0, 4)", 0);
        due.is(Due.line("w30"), "game(0, 4)", 1);
    }

    @Says("n (0 .. 4) NIGHTS")
    static void promise30_noNights() {
        MoonLine x = Due.line("w90 w90");
        due.is(x, "game(0, 0)", 0);
        due.is(x, "game(1, 0)", 0);
    }

    @Says("n (0 .. 4) NIGHTS")
    static void promise30_4Nights() {
        // from the fifth place it is first behind two CLEAR NIGHTS, and then two may be cloudy
        MoonLine x = Due.line("w90 w90 w90 w90 w90 w90 w90");
        due.is(x, "game(3, 4)", 1);
        due.is(x, "game(4, 4)", 0);
    }

    @Says("whether the PERSON GOES in these")
    static void promise30_outOfTheLine() {
        MoonLine x = Due.line("w90 w10 w90");
        x.night(1);
        due.is(x, "game(0, 4)", 0);
        due.is(x, "game(1, 4)", 0);
        due.is(x, "game(2, 4)", 1);
    }

    @Says("BAD")
    static void promise30_noSuchNumberIsBad() {
        MoonLine x = Due.line("w90 w90");
        for (int i : Due.outside(0, 1)) {
            due.refused(x, "game(" + i + ", 1)", BAD);
        }
        for (int n : Due.outside(0, 4)) {
            due.refused(x, "game(0, " + n + ")", BAD);
        }
        due.refused(new MoonLine(), "game(0, 1)", BAD);
    }
}
