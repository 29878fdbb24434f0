/** Promises 15 to 19: night, trade, undo, keep, on. */
public final class DeedsTest {
    private static final int NONE = MoonLine.NONE, BAD = MoonLine.BAD, STATE = MoonLine.STATE, FULL = MoonLine.FULL;
    private static final Due due = new Due();

    public static void main(String[] args) {
        due.run(DeedsTest.class);
    }

    /** A line behind so many trades of its first two persons. */
    private static MoonLine traded(String signs, int times) {
        MoonLine x = Due.line(signs);
        for (int k = 0; k < times; k++) {
            x.trade(0, 1);
        }
        return x;
    }

    // ---- 15 night: who is asleep, pushes, goes, gives up

    @Says("In a NIGHT a SLEEPER is ASLEEP")
    static void promise15_aSleeperIsAlwaysAsleep() {
        MoonLine x = Due.line("s90");
        for (int k = 0; k < 8; k++) {
            due.is(x, "night(1)", NONE);
        }
    }

    @Says("a DREAMER not, if 3 divides the NIGHT's number")
    static void promise15_aDreamerIsAwakeIf3DividesTheNight() {
        for (int night = 0; night < 8; night++) {
            MoonLine x = Due.line("d90");
            for (int k = 0; k < night; k++) {
                x.night(0);
            }
            due.is("night(1) in NIGHT " + night, x.night(1), night % 3 == 0 ? 0 : NONE);
        }
    }

    @Says("nobody else is")
    static void promise15_nobodyElseIsAsleep() {
        for (char letter : "wplr".toCharArray()) {
            for (int night = 0; night < 4; night++) {
                MoonLine x = Due.line(letter + "90 s90");
                for (int k = 0; k < night; k++) {
                    x.night(0);
                }
                due.is(letter + " in NIGHT " + night, x.night(1), 0);
            }
        }
    }

    private static void pushed(String signs, int... order) {
        MoonLine x = Due.line(signs);
        x.night(0);
        due.order(x, order);
    }

    @Says("goes ahead of the one just ahead of it, if that one is ASLEEP")
    static void promise15_aPusherGoesAheadOfOneAsleep() {
        pushed("s90 p90", 1, 0);
        pushed("s90 s90 p90", 0, 2, 1);
        pushed("w90 s90 p90", 0, 2, 1);
    }

    @Says("the one just ahead of it, if that one is ASLEEP")
    static void promise15_aPusherStaysBehindOneAwake() {
        pushed("s90 w90 p90", 0, 1, 2);
        pushed("p90 s90", 0, 1);
        // in NIGHT 0 a DREAMER is awake
        pushed("d90 p90", 0, 1);
        MoonLine x = Due.line("d90 p90");
        x.night(0);
        x.night(0);
        due.order(x, 1, 0);
    }

    @Says("a RAM, if it did, once more so")
    static void promise15_aRamOnceMore() {
        pushed("s90 r90", 1, 0);
        pushed("s90 s90 r90", 2, 0, 1);
        pushed("s90 s90 s90 r90", 0, 3, 1, 2);
        pushed("s90 w90 s90 r90", 0, 1, 3, 2);
        pushed("s90 w90 r90", 0, 1, 2);
        pushed("r90 s90", 0, 1);
    }

    @Says("from the first place on, each PUSHER in its turn (as they stood)")
    static void promise15_eachPusherInItsTurn() {
        // the first one leaves the SLEEPER just ahead of the second one
        pushed("s90 p90 p90", 1, 2, 0);
        pushed("s90 p90 r90 s90 r90", 1, 2, 4, 0, 3);
        pushed("s90 s90 r90 r90", 2, 3, 0, 1);
        pushed("s90 p90 w90 p90", 1, 0, 2, 3);
    }

    @Says("each PUSHER in its turn (as they stood)")
    static void promise15_onceInANight() {
        pushed("s90 s90 s90 p90", 0, 1, 3, 2);
        MoonLine x = Due.line("s90 s90 s90 p90");
        x.night(0);
        x.night(0);
        due.order(x, 0, 3, 1, 2);
    }

    @Says("if it is CLEAR, one GOES")
    static void promise15_oneGoesIfItIsClear() {
        MoonLine x = Due.line("w90 w90 w90");
        due.is(x, "night(1)", 0);
        due.order(x, 1, 2);
        due.is(x, "night(0)", NONE);
        due.order(x, 1, 2);
        due.is(x, "night(1)", 1);
        due.order(x, 2);
    }

    @Says("the first in the LINE who is not ASLEEP")
    static void promise15_theFirstWhoIsAwake() {
        MoonLine x = Due.line("s90 d90 w90 w90");
        due.is(x, "night(1)", 1);
        due.is(x, "night(1)", 2);
        due.order(x, 0, 3);
    }

    @Says("(nobody, if all are)")
    static void promise15_nobodyIfAllAreAsleep() {
        MoonLine x = Due.line("s90 d90");
        x.night(0);
        due.is(x, "night(1)", NONE);
        due.order(x, 0, 1);
        due.is(x, "count(1)", 2);
        due.is(x, "count(4)", 0);
    }

    @Says({"In a NIGHT, first, from the first place on", "Then, if it is CLEAR, one GOES", "Then who stands in it yet"})
    static void promise15_pushesThenGoesThenGivesUp() {
        // the PUSHER finds the WAITER just ahead yet, who then is out of the LINE
        MoonLine x = Due.line("s90 w90 p90");
        due.is(x, "night(1)", 1);
        due.order(x, 0, 2);
        MoonLine y = Due.line("s90 w10 p90");
        due.is(y, "night(0)", NONE);
        due.order(y, 0, 2);
        MoonLine z = Due.line("w10 w10");
        due.is(z, "night(1)", 0);
        due.is(Due.line("s90 p90 w90"), "night(1)", 1);
    }

    @Says("if that is a LOVER, the next one behind it who is not ASLEEP GOES in its place")
    static void promise15_aLoverLetsTheNextOneGo() {
        due.is(Due.line("l90 w90 w90"), "night(1)", 1);
        due.is(Due.line("l90 s90 w90"), "night(1)", 2);
        due.is(Due.line("s90 l90 s90 d90"), "night(1)", 3);
        due.is(Due.line("w90 l90 w90"), "night(1)", 0);
        MoonLine x = Due.line("l90 w90 w90");
        x.night(1);
        due.order(x, 0, 2);
    }

    @Says("the next one behind it who is not ASLEEP GOES")
    static void promise15_theNextOneMayBeALover() {
        due.is(Due.line("l90 l90 w90"), "night(1)", 1);
        due.is(Due.line("l90 s90 l90 w90"), "night(1)", 2);
    }

    @Says("(if there is none, the LOVER)")
    static void promise15_theLoverIfThereIsNone() {
        due.is(Due.line("l90"), "night(1)", 0);
        due.is(Due.line("s90 l90 s90"), "night(1)", 1);
        MoonLine x = Due.line("s90 l90 d90");
        x.night(0);
        due.is(x, "night(1)", 1);
    }

    @Says("who stands in it yet has waited one NIGHT more")
    static void promise15_whoStandsYetHasWaited() {
        MoonLine x = Due.line("w90 w90 s90");
        x.night(1);
        due.person(x, 0, 4, 0);
        due.person(x, 1, 4, 1);
        due.person(x, 2, 4, 1);
        x.night(0);
        due.person(x, 0, 4, 0);
        due.person(x, 1, 4, 2);
    }

    @Says("who has waited as many NIGHTS as its PATIENCE GIVES UP, is out of the LINE")
    static void promise15_whoseEndOfPatienceComesGivesUp() {
        for (int patience = 1; patience <= 9; patience++) {
            MoonLine x = Due.line("w" + patience + "0");
            for (int k = 1; k < patience; k++) {
                x.night(0);
            }
            due.order(x, 0);
            due.person(x, 0, 6, 0);
            due.is(x, "night(0)", NONE);
            due.order(x);
            due.person(x, 0, 6, 1);
            due.is(x, "count(5)", 1);
        }
    }

    @Says({"GIVES UP", "A PERSON is in the LINE, has GONE, or has GIVEN UP"})
    static void promise15_whoGoesInItsLastNightDoesNotGiveUp() {
        MoonLine x = Due.line("w10 w10");
        due.is(x, "night(1)", 0);
        due.person(x, 0, 6, 0);
        due.person(x, 0, 5, 0);
        due.person(x, 1, 6, 1);
        due.person(x, 1, 5, NONE);
        due.is(x, "count(4)", 1);
        due.is(x, "count(5)", 1);
    }

    @Says("(all of these at once)")
    static void promise15_allOfTheseAtOnce() {
        MoonLine x = Due.line("w10 w90 w10 w10 w90 w10");
        x.night(0);
        due.is(x, "count(5)", 4);
        due.order(x, 1, 4);
    }

    @Says("A NIGHT passes, CLEAR (1) or not (0): who WENT (NONE: nobody)")
    static void promise15_aNightWithNobodyInTheLine() {
        MoonLine x = Due.line("w10");
        x.night(0);
        due.is(x, "night(1)", NONE);
        due.is(x, "night(0)", NONE);
        due.is(x, "count(1)", 3);
        due.is(x, "count(2)", 3);
        due.person(x, 0, 4, 1);
    }

    @Says({"NIGHTS are 0, 1, ..", "These are DEEDS 0, 1, .."})
    static void promise15_aNightIsADeed() {
        MoonLine x = Due.line("w90 w90 w90");
        due.is(x, "night(0)", NONE);
        due.is(x, "count(1)", 1);
        due.is(x, "count(2)", 1);
        due.is(x, "night(1)", 0);
        due.is(x, "count(1)", 2);
        due.is(x, "count(2)", 2);
        due.person(x, 0, 5, 1);
    }

    @Says("BAD")
    static void promise15_neitherClearNorNotIsBad() {
        MoonLine x = Due.line("w90 w90");
        for (int clear : Due.outside(0, 1)) {
            due.refused(x, "night(" + clear + ")", BAD);
        }
    }

    @Says("STATE: no PERSONS")
    static void promise15_withoutPersons() {
        MoonLine x = new MoonLine();
        due.refused(x, "night(0)", STATE);
        due.refused(x, "night(1)", STATE);
        due.refused(x, "night(2)", BAD);
    }

    @Says({"FULL: 40 DEEDS", "(40 at most)"})
    static void promise15_fullAt40Deeds() {
        MoonLine x = traded("w90 w90", 39);
        due.is(x, "night(0)", NONE);
        due.is(x, "count(2)", 40);
        due.refused(x, "night(0)", FULL);
        due.refused(x, "night(1)", FULL);
        x.undo(39);
        due.is(x, "night(1)", 1);
        due.refused(x, "night(1)", FULL);
    }

    @Says("(FULL last.)")
    static void promise15_badAheadOfFull() {
        MoonLine x = traded("w90 w90", 40);
        due.refused(x, "night(2)", BAD);
        due.refused(x, "night(-1)", BAD);
    }

    // ---- 16 trade

    @Says("Two TRADE their places: 1")
    static void promise16_twoTradeTheirPlaces() {
        MoonLine x = Due.line("w90 w90 w90 w90");
        due.is(x, "trade(0, 2)", 1);
        due.order(x, 2, 1, 0, 3);
        due.is(x, "trade(3, 2)", 1);
        due.order(x, 3, 1, 0, 2);
        due.is(x, "trade(2, 3)", 1);
        due.order(x, 2, 1, 0, 3);
        due.is(x, "count(2)", 3);
        due.is(x, "count(1)", 0);
        due.person(x, 0, 4, 0);
        due.is(x, "night(1)", 2);
    }

    @Says("BAD: also the same")
    static void promise16_theSameIsBad() {
        MoonLine x = Due.line("w90 w90");
        due.refused(x, "trade(0, 0)", BAD);
        due.refused(x, "trade(1, 1)", BAD);
    }

    @Says("BAD")
    static void promise16_noSuchPersonIsBad() {
        MoonLine x = Due.line("w90 w90");
        for (int i : Due.outside(0, 1)) {
            due.refused(x, "trade(" + i + ", 0)", BAD);
            due.refused(x, "trade(0, " + i + ")", BAD);
        }
        due.refused(new MoonLine(), "trade(0, 1)", BAD);
    }

    @Says("STATE: one is out of the LINE")
    static void promise16_oneIsOutOfTheLine() {
        MoonLine x = Due.line("w90 w10 w90 w10");
        x.night(1);
        due.refused(x, "trade(0, 2)", STATE);
        due.refused(x, "trade(2, 0)", STATE);
        due.refused(x, "trade(2, 1)", STATE);
        due.refused(x, "trade(1, 2)", STATE);
        due.refused(x, "trade(1, 3)", STATE);
        due.refused(x, "trade(0, 1)", STATE);
    }

    @Says("FULL")
    static void promise16_fullAt40Deeds() {
        MoonLine x = traded("w90 w90 w90", 39);
        due.is(x, "trade(0, 2)", 1);
        due.refused(x, "trade(0, 1)", FULL);
        due.is(x, "count(2)", 40);
        x.undo(39);
        due.is(x, "trade(0, 1)", 1);
    }

    @Says({"(FULL last.)", "the first of these that fits, in this order"})
    static void promise16_fullLast() {
        MoonLine x = Due.line("w90 w90 w90");
        x.night(1);
        x.lots(20, 1);
        for (int k = 21; k < 40; k++) {
            x.night(0);
        }
        due.is(x, "count(2)", 40);
        due.refused(x, "trade(1, 2)", STATE);
        due.refused(x, "trade(1, 1)", BAD);
        due.refused(x, "trade(3, 1)", BAD);
    }

    // ---- 17 undo

    @Says("DEEDS from number n on are undone (PRICES stay): how many")
    static void promise17_deedsFromANumberOn() {
        MoonLine x = Due.line("w30 w90 s90 p90");
        long[] seen = new long[7];
        String[] deeds = {"trade(0, 1)", "night(1)", "night(0)", "trade(3, 2)", "night(0)", "lots(1, 4)"};
        for (int k = 0; k < 6; k++) {
            seen[k] = x.digest();
            Due.call(x, deeds[k]);
        }
        seen[6] = x.digest();
        due.person(x, 0, 6, 1);
        for (int n = 6; n >= 0; n--) {
            due.is(x, "undo(" + n + ")", n == 6 ? 0 : 1);
            due.is("as it was behind " + n, x.digest(), seen[n]);
        }
    }

    @Says("how many")
    static void promise17_howMany() {
        MoonLine x = traded("w90 w90", 40);
        due.is(x, "undo(37)", 3);
        due.is(x, "count(2)", 37);
        due.is(x, "undo(0)", 37);
        due.is(x, "count(2)", 0);
        due.is(x, "undo(0)", 0);
    }

    @Says("DEEDS from number n on")
    static void promise17_fromTheEndOnNone() {
        MoonLine x = Due.line("w90 w90");
        due.aside(x, "undo(0)", 0);
        x.night(1);
        x.trade(0, 1);
        due.aside(x, "undo(1)", 0);
        due.is(new MoonLine(), "undo(0)", 0);
    }

    @Says("(PRICES stay)")
    static void promise17_pricesStay() {
        MoonLine x = Due.line("w92 w93");
        x.price(0, 4);
        x.night(0);
        x.price(1, 8);
        x.night(1);
        due.is(x, "undo(0)", 2);
        due.person(x, 0, 2, 4);
        due.person(x, 1, 2, 8);
    }

    @Says("are undone")
    static void promise17_goneOnFromThere() {
        MoonLine x = Due.line("w90 w10 w90");
        x.night(0);
        x.undo(0);
        due.order(x, 0, 1, 2);
        due.person(x, 1, 6, 0);
        due.person(x, 1, 4, 0);
        x.trade(0, 1);
        due.is(x, "night(1)", 1);
        due.is(x, "count(1)", 1);
    }

    @Says("BAD")
    static void promise17_noSuchDeedIsBad() {
        MoonLine x = Due.line("w90 w90");
        x.night(1);
        x.night(0);
        for (int n : Due.outside(0, 2)) {
            due.refused(x, "undo(" + n + ")", BAD);
        }
        due.refused(new MoonLine(), "undo(1)", BAD);
        due.refused(new MoonLine(), "undo(-1)", BAD);
    }

    // ---- 18 keep

    @Says("The LINE (as it is, DEEDS; not PRICES) is kept in a place (0 .. 2): how many DEEDS")
    static void promise18_howManyDeeds() {
        MoonLine x = Due.line("w90 w90");
        due.is(x, "keep(0)", 0);
        x.night(0);
        due.is(x, "keep(1)", 1);
        x.trade(0, 1);
        due.is(x, "keep(2)", 2);
        due.is(x, "count(10)", 3);
        due.is(x, "count(2)", 2);
        MoonLine y = traded("w90 w90", 40);
        due.is(y, "keep(2)", 40);
    }

    @Says("is kept in a place (0 .. 2)")
    static void promise18_overWhatWasKept() {
        MoonLine x = Due.line("w90 w90");
        x.keep(0);
        x.night(1);
        due.is(x, "keep(0)", 1);
        due.is(x, "count(10)", 1);
        x.undo(0);
        due.is(x, "on(0)", 1);
        due.person(x, 0, 5, 0);
    }

    @Says("not PRICES")
    static void promise18_notPrices() {
        MoonLine x = Due.line("w91 w90");
        x.keep(0);
        x.price(0, 7);
        x.on(0);
        due.person(x, 0, 2, 7);
    }

    @Says("BAD")
    static void promise18_noSuchPlaceIsBad() {
        MoonLine x = Due.line("w90 w90");
        for (int k : Due.outside(0, 2)) {
            due.refused(x, "keep(" + k + ")", BAD);
        }
    }

    @Says("STATE: no PERSONS")
    static void promise18_withoutPersons() {
        MoonLine x = new MoonLine();
        for (int k = 0; k <= 2; k++) {
            due.refused(x, "keep(" + k + ")", STATE);
        }
        due.is(x, "count(10)", 0);
    }

    @Says("BAD; STATE: no PERSONS")
    static void promise18_badAheadOfState() {
        MoonLine x = new MoonLine();
        due.refused(x, "keep(3)", BAD);
        due.refused(x, "keep(-1)", BAD);
    }

    @Says("as it is")
    static void promise18_withNobodyInTheLine() {
        MoonLine x = Due.line("w10");
        x.night(0);
        due.is(x, "keep(0)", 1);
        x.undo(0);
        due.is(x, "on(0)", 1);
        due.person(x, 0, 6, 1);
    }

    // ---- 19 on

    @Says("The LINE is as it was kept: how many DEEDS")
    static void promise19_asItWasKept() {
        MoonLine x = Due.line("w90 w20 w92 s90 p90");
        x.night(1);
        x.trade(1, 2);
        x.keep(0);
        long kept = x.digest();
        x.night(1);
        x.night(0);
        x.trade(3, 4);
        due.is(x, "on(0)", 2);
        due.is("as it was kept", x.digest(), kept);
        x.undo(0);
        x.night(0);
        x.night(0);
        due.is(x, "on(0)", 2);
        due.is("behind other DEEDS", x.digest(), kept);
    }

    @Says("The LINE is as it was kept")
    static void promise19_itsDeedsToo() {
        MoonLine x = Due.line("w90 w90 w90");
        x.night(1);
        x.trade(1, 2);
        x.keep(2);
        x.undo(0);
        x.night(0);
        x.night(0);
        x.night(0);
        due.is(x, "on(2)", 2);
        due.is(x, "undo(1)", 1);
        due.order(x, 1, 2);
        due.is(x, "undo(0)", 1);
        due.order(x, 0, 1, 2);
    }

    @Says("The LINE is as it was kept")
    static void promise19_moreDeedsThanNow() {
        MoonLine x = traded("w90 w90", 40);
        x.keep(1);
        x.undo(0);
        due.is(x, "on(1)", 40);
        due.refused(x, "night(0)", FULL);
        due.is(x, "undo(39)", 1);
        due.order(x, 1, 0);
    }

    @Says("The LINE is as it was kept")
    static void promise19_whatIsKeptStays() {
        MoonLine x = Due.line("w90 w90");
        x.keep(0);
        x.night(1);
        x.keep(1);
        due.is(x, "on(0)", 0);
        x.night(0);
        due.is(x, "on(1)", 1);
        due.person(x, 0, 5, 0);
        due.is(x, "on(0)", 0);
        due.order(x, 0, 1);
        due.is(x, "count(10)", 2);
    }

    @Says("BAD")
    static void promise19_noSuchPlaceIsBad() {
        MoonLine x = Due.line("w90 w90");
        x.keep(0);
        x.keep(2);
        for (int k : Due.outside(0, 2)) {
            due.refused(x, "on(" + k + ")", BAD);
        }
    }

    @Says({"NOTHING", "a kept LINE that is missing"})
    static void promise19_nothingIsKept() {
        MoonLine x = Due.line("w90 w90");
        x.night(1);
        x.keep(1);
        due.finds(x, "on(0)", Due.NOTHING);
        due.finds(x, "on(2)", Due.NOTHING);
        due.finds(new MoonLine(), "on(1)", Due.NOTHING);
    }
}
