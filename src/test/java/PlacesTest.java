import java.math.BigInteger;

/** Promises 33 to 37: lies, merge, merged, message, lots. */
public final class PlacesTest {
    private static final int BAD = MoonLine.BAD, STATE = MoonLine.STATE, FULL = MoonLine.FULL;
    private static final Due due = new Due();

    public static void main(String[] args) {
        due.run(PlacesTest.class);
    }

    // ---- 33 lies

    private static void liesAre(MoonLine x, int fewest, long orders, int... pairs) {
        Due.fill(x, 3, pairs);
        x.odds(0, 1, 5);
        due.aside(x, "lies(3)", fewest);
        due.told("lies(3)", x, orders, 1);
    }

    @Says({"The fewest lies of who remembers whom", "orders by which so few are lies by upper() (lower() is 1)"})
    static void promise33_theFewestLies() {
        MoonLine x = Due.line("w90 w90 w90 w90");
        liesAre(x, 0, 6, 1, 0);
        liesAre(x, 0, 1, 1, 0, 2, 1, 3, 2);
        liesAre(x, 0, 1, 2, 3, 1, 2, 0, 1);
        // two can't stand just behind the same one, nor one behind two, nor two behind each other, nor all in a ring
        liesAre(x, 1, 12, 1, 0, 2, 0);
        liesAre(x, 1, 12, 1, 0, 1, 2);
        liesAre(x, 1, 12, 1, 0, 0, 1);
        liesAre(x, 1, 4, 0, 1, 1, 2, 2, 3, 3, 0);
    }

    @Says("one, another one whom it stands just behind")
    static void promise33_whomItStandsJustBehind() {
        MoonLine x = Due.line("w90 w90 w90");
        liesAre(x, 0, 1, 1, 0, 2, 1);
        // 2 just behind 0 besides: two of these three are true by 0 1 2 alone
        liesAre(x, 1, 1, 1, 0, 2, 1, 2, 0);
        // by 0 2 1 and 1 0 2; by 0 1 2 it does not stand just behind
        liesAre(x, 0, 2, 2, 0);
    }

    @Says("a ROW of pairs (0 to 8")
    static void promise33_noPairs() {
        MoonLine x = Due.line("w90 w90 w90 w90");
        liesAre(x, 0, 24);
        liesAre(Due.line("w90"), 0, 1);
        liesAre(Due.line("w90 w90 w90 w90 w90 w90 w90"), 0, 5040);
    }

    @Says("a ROW of pairs (0 to 8")
    static void promise33_8Pairs() {
        MoonLine x = Due.line("w90 w90");
        liesAre(x, 4, 2, 0, 1, 0, 1, 0, 1, 0, 1, 1, 0, 1, 0, 1, 0, 1, 0);
        // by 3 0 1 2, 2 3 0 1 and 1 2 3 0: the two that say the same, and two more
        MoonLine y = Due.line("w90 w90 w90 w90");
        liesAre(y, 4, 3, 1, 0, 2, 1, 3, 2, 0, 3, 0, 3, 1, 3, 2, 0, 0, 2);
    }

    @Says("The fewest lies of who remembers whom")
    static void promise33_whatIsSaidTwiceCountsTwice() {
        MoonLine x = Due.line("w90 w90 w90 w90");
        liesAre(x, 0, 6, 1, 0, 1, 0);
        liesAre(x, 1, 6, 1, 0, 1, 0, 2, 0);
    }

    @Says("whichever order of all PERSONS there may be")
    static void promise33_allPersonsNotThoseInTheLineAlone() {
        MoonLine x = Due.line("w90 w10 w90");
        x.night(1);
        liesAre(x, 0, 2, 1, 0);
        liesAre(x, 0, 6);
    }

    @Says("BAD")
    static void promise33_noSuchRowIsBad() {
        MoonLine x = Due.line("w90 w90");
        x.row(0, 0);
        x.row(5, 0);
        for (int r : Due.outside(0, 5)) {
            due.refused(x, "lies(" + r + ")", BAD);
        }
    }

    @Says("STATE: no PERSONS")
    static void promise33_withoutPersons() {
        MoonLine x = new MoonLine();
        x.row(0, 0);
        due.refused(x, "lies(0)", STATE);
    }

    @Says("NOTHING")
    static void promise33_aMissingRow() {
        MoonLine x = Due.line("w90 w90");
        due.finds(x, "lies(0)", Due.NOTHING);
        due.finds(x, "lies(5)", Due.NOTHING);
    }

    @Says("SIZE: not by pairs, too many")
    static void promise33_notByPairsIsSize() {
        MoonLine x = Due.line("w90 w90");
        Due.fill(x, 0, 0);
        due.finds(x, "lies(0)", Due.SIZE);
        Due.fill(x, 0, 0, 1, 0);
        due.finds(x, "lies(0)", Due.SIZE);
        Due.fill(x, 0, 0, 1, 0, 1, 0, 1, 0, 1, 0, 1, 0, 1, 0, 1, 0);
        due.finds(x, "lies(0)", Due.SIZE);
    }

    @Says("SIZE: not by pairs, too many")
    static void promise33_tooManyIsSize() {
        MoonLine x = Due.line("w90 w90");
        Due.fill(x, 0, 0, 1, 0, 1, 0, 1, 0, 1, 0, 1, 0, 1, 0, 1, 0, 1);
        due.is(x, "lies(0)", 0);
        Due.fill(x, 0, 0, 1, 0, 1, 0, 1, 0, 1, 0, 1, 0, 1, 0, 1, 0, 1, 0, 1);
        due.finds(x, "lies(0)", Due.SIZE);
        x.row(0, 40);
        due.finds(x, "lies(0)", Due.SIZE);
    }

    @Says("UNLIKE: no PERSON")
    static void promise33_noPersonIsUnlike() {
        MoonLine x = Due.line("w90 w90");
        for (int v : new int[] {2, -1, -9, Due.MIN, Due.MAX}) {
            Due.fill(x, 0, 0, 1, v, 1);
            due.finds(x, "lies(0)", Due.UNLIKE);
            Due.fill(x, 0, 0, v, 0, 1);
            due.finds(x, "lies(0)", Due.UNLIKE);
        }
    }

    @Says("UNLIKE: no PERSON, the same twice")
    static void promise33_theSameTwiceIsUnlike() {
        MoonLine x = Due.line("w90 w90");
        Due.fill(x, 0, 1, 1);
        due.finds(x, "lies(0)", Due.UNLIKE);
        Due.fill(x, 0, 0, 1, 0, 0);
        due.finds(x, "lies(0)", Due.UNLIKE);
    }

    @Says("(In this order.)")
    static void promise33_theOrderOfRefusals() {
        MoonLine x = new MoonLine();
        due.refused(x, "lies(6)", BAD);
        due.refused(x, "lies(0)", STATE);
        Due.fill(x, 0, 7, 7, 7);
        due.refused(x, "lies(0)", STATE);
        MoonLine y = Due.line("w90 w90");
        Due.fill(y, 0, 7, 7, 7);
        due.finds(y, "lies(0)", Due.SIZE);
        y.row(0, 18);
        due.finds(y, "lies(0)", Due.SIZE);
        y.row(0, 16);
        due.finds(y, "lies(0)", Due.UNLIKE);
    }

    // ---- 34 merge

    private static long ways(int a, int b) {
        long[][] all = new long[a + 1][b + 1];
        for (int i = 0; i <= a; i++) {
            for (int j = 0; j <= b; j++) {
                all[i][j] = i == 0 || j == 0 ? 1 : all[i - 1][j] + all[i][j - 1];
            }
        }
        return all[a][b];
    }

    @Says({"In how many ways two lines of a, b (0 .. 20) PERSONS become one, each in its order, told by upper()",
        "(lower() is 1): 1"})
    static void promise34_inHowManyWays() {
        for (int a = 0; a <= 20; a++) {
            MoonLine x = Due.line("w90");
            for (int b = 0; b <= 20; b++) {
                x.odds(0, 1, 5);
                due.tells(x, "merge(" + a + ", " + b + ")", ways(a, b), 1);
            }
        }
        due.aside(Due.line("w90"), "merge(3, 4)", 1);
    }

    @Says("(0 .. 20)")
    static void promise34_noneAnd20() {
        MoonLine x = new MoonLine();
        due.tells(x, "merge(0, 0)", 1, 1);
        due.tells(x, "merge(0, 20)", 1, 1);
        due.tells(x, "merge(20, 0)", 1, 1);
        due.tells(x, "merge(20, 1)", 21, 1);
        due.tells(x, "merge(20, 20)", 137846528820L, 1);
    }

    @Says("BAD")
    static void promise34_noSuchNumberIsBad() {
        MoonLine x = new MoonLine();
        x.merge(3, 4);
        for (int a : Due.outside(0, 20)) {
            due.refused(x, "merge(" + a + ", 1)", BAD);
            due.refused(x, "merge(1, " + a + ")", BAD);
        }
    }

    // ---- 35 merged

    private static void mergedIs(MoonLine x, int answer, int... both) {
        Due.fill(x, 2, both);
        due.aside(x, "merged(0, 1, 2)", answer);
        due.aside(x, "merged(1, 0, 2)", answer);
    }

    @Says("Whether a third ROW is a merge of two others (all places of both, each in its order): 1, 0")
    static void promise35_whetherItIs() {
        MoonLine x = new MoonLine();
        Due.fill(x, 0, 1, 2, 3);
        Due.fill(x, 1, 1, 2, 4);
        mergedIs(x, 1, 1, 2, 1, 2, 4, 3);
        mergedIs(x, 1, 1, 1, 2, 2, 3, 4);
        mergedIs(x, 1, 1, 2, 3, 1, 2, 4);
        mergedIs(x, 0, 1, 2, 4, 3, 1, 2);
        mergedIs(x, 0, 1, 2, 1, 2, 3, 3);
        mergedIs(x, 0, 2, 1, 1, 2, 3, 4);
        mergedIs(x, 0, 1, 2, 1, 2, 3, 5);
    }

    @Says("all places of both, each in its order")
    static void promise35_notByTheFirstThatFits() {
        // who takes from one row as long as it fits, is led astray
        MoonLine x = new MoonLine();
        Due.fill(x, 0, 1, 1, 2);
        Due.fill(x, 1, 1, 3);
        mergedIs(x, 1, 1, 3, 1, 1, 2);
        mergedIs(x, 1, 1, 1, 3, 1, 2);
        mergedIs(x, 1, 1, 1, 2, 1, 3);
        mergedIs(x, 0, 1, 3, 1, 2, 1);
    }

    @Says("Whether a third ROW is a merge of two others")
    static void promise35_rowsOfNone() {
        MoonLine x = new MoonLine();
        x.row(0, 0);
        Due.fill(x, 1, 1, 2, 4);
        mergedIs(x, 1, 1, 2, 4);
        mergedIs(x, 0, 1, 4, 2);
        x.row(1, 0);
        mergedIs(x, 1);
    }

    @Says("Whether a third ROW is a merge of two others")
    static void promise35_40Places() {
        MoonLine x = new MoonLine();
        x.row(0, 20);
        x.row(1, 20);
        x.row(2, 40);
        due.is(x, "merged(0, 1, 2)", 1);
        x.lay(2, 39, 1);
        due.is(x, "merged(0, 1, 2)", 0);
        x.lay(1, 19, 1);
        due.is(x, "merged(0, 1, 2)", 1);
        x.row(5, 0);
        due.is(x, "merged(2, 5, 2)", 1);
        due.is(x, "merged(5, 2, 2)", 1);
    }

    @Says("Whether a third ROW is a merge of two others")
    static void promise35_theSameRowTwice() {
        MoonLine x = new MoonLine();
        Due.fill(x, 3, 5, 6);
        Due.fill(x, 4, 5, 5, 6, 6);
        due.is(x, "merged(3, 3, 4)", 1);
        Due.fill(x, 4, 5, 6, 6, 5);
        due.is(x, "merged(3, 3, 4)", 0);
    }

    @Says("BAD")
    static void promise35_noSuchRowIsBad() {
        MoonLine x = new MoonLine();
        x.row(0, 0);
        x.row(5, 0);
        for (int r : Due.outside(0, 5)) {
            due.refused(x, "merged(" + r + ", 0, 0)", BAD);
            due.refused(x, "merged(0, " + r + ", 0)", BAD);
            due.refused(x, "merged(0, 0, " + r + ")", BAD);
        }
        due.refused(x, "merged(1, 2, 6)", BAD);
    }

    @Says("NOTHING: any (one after another)")
    static void promise35_anyRowMissing() {
        MoonLine x = new MoonLine();
        x.row(0, 0);
        due.finds(x, "merged(1, 0, 0)", Due.NOTHING);
        due.finds(x, "merged(0, 1, 0)", Due.NOTHING);
        due.finds(x, "merged(0, 0, 1)", Due.NOTHING);
        due.finds(x, "merged(1, 2, 3)", Due.NOTHING);
    }

    @Says("SIZE: not as many as both")
    static void promise35_notAsManyAsBoth() {
        MoonLine x = new MoonLine();
        x.row(0, 1);
        x.row(1, 2);
        x.row(2, 3);
        x.row(3, 40);
        x.row(4, 0);
        due.is(x, "merged(0, 1, 2)", 1);
        due.finds(x, "merged(0, 1, 1)", Due.SIZE);
        due.finds(x, "merged(0, 2, 2)", Due.SIZE);
        due.finds(x, "merged(1, 0, 3)", Due.SIZE);
        due.finds(x, "merged(3, 3, 3)", Due.SIZE);
        due.finds(x, "merged(4, 4, 0)", Due.SIZE);
        due.finds(x, "merged(0, 0, 4)", Due.SIZE);
    }

    @Says("BAD; NOTHING: any (one after another); SIZE")
    static void promise35_nothingAheadOfSize() {
        MoonLine x = new MoonLine();
        x.row(0, 5);
        x.row(1, 5);
        due.finds(x, "merged(0, 1, 2)", Due.NOTHING);
        due.finds(x, "merged(2, 0, 1)", Due.NOTHING);
        due.finds(x, "merged(0, 2, 1)", Due.NOTHING);
    }

    // ---- 36 message

    private static void messages(MoonLine x, int... nights) {
        for (int i = 0; i < nights.length; i++) {
            due.aside(x, "message(" + i + ")", nights[i]);
        }
    }

    @Says("in each NIGHT, from this one on, it comes two places on")
    static void promise36_twoPlacesOn() {
        messages(Due.line("w90 w90 w90 w90 w90 w90 w90"), 0, 1, 1, 2, 2, 3, 3);
    }

    @Says("but one alone, if the first of these two is ASLEEP in that NIGHT")
    static void promise36_oneAloneIfTheFirstIsAsleep() {
        messages(Due.line("w90 s90 s90 s90 s90 s90 s90"), 0, 1, 2, 3, 4, 5, 6);
        // not if the second of these two is ASLEEP
        messages(Due.line("w90 s90 w90 w90 w90"), 0, 1, 2, 2, 3);
        messages(Due.line("s90 w90 w90"), 0, 1, 1);
    }

    @Says("in that NIGHT")
    static void promise36_aDreamerInThatNight() {
        // in NIGHT 0 a DREAMER is awake, in NIGHTS 1 and 2 not, in NIGHT 3 it is
        MoonLine x = Due.line("w90 d90 d90 d90 d90 d90 d90");
        messages(x, 0, 1, 1, 2, 3, 4, 4);
        x.night(0);
        messages(x, 0, 1, 2, 3, 3, 4, 5);
        x.night(0);
        messages(x, 0, 1, 2, 2, 3, 4, 5);
    }

    @Says("as that stands now (nobody moves)")
    static void promise36_nobodyMoves() {
        MoonLine x = Due.line("s90 p90 s90 p90 s90 p90 w10");
        messages(x, 0, 1, 1, 2, 2, 3, 3);
        MoonLine y = Due.line("w90 w90 w90");
        y.trade(0, 2);
        messages(y, 1, 1, 0);
    }

    @Says("(0: it is the first)")
    static void promise36_fromTheFirst() {
        due.is(Due.line("s90 w90"), "message(0)", 0);
        MoonLine x = Due.line("w90 w90");
        x.night(1);
        due.is(x, "message(1)", 0);
    }

    @Says("BAD")
    static void promise36_noSuchPersonIsBad() {
        MoonLine x = Due.line("w90 w90");
        for (int i : Due.outside(0, 1)) {
            due.refused(x, "message(" + i + ")", BAD);
        }
        due.refused(new MoonLine(), "message(0)", BAD);
    }

    @Says("STATE: out of the LINE")
    static void promise36_outOfTheLine() {
        MoonLine x = Due.line("w90 w10 w90");
        x.night(1);
        due.refused(x, "message(0)", STATE);
        due.refused(x, "message(1)", STATE);
        due.is(x, "message(2)", 0);
    }

    // ---- 37 lots

    @Says({"n (1 .. 20) NIGHTS truly by LOTS of a seed", "how many WENT",
        "a number comes from the one ahead by 48271 times it modulo 2147483647"})
    static void promise37_asByNights() {
        for (int seed : new int[] {1, 7, 2147483646, 123456789}) {
            MoonLine x = Due.line("w90 d90 w40 s90 p90 l90 r20");
            MoonLine y = Due.line("w90 d90 w40 s90 p90 l90 r20");
            BigInteger lot = BigInteger.valueOf(seed);
            int went = 0;
            for (int k = 0; k < 20; k++) {
                lot = lot.multiply(BigInteger.valueOf(48271)).mod(BigInteger.valueOf(2147483647));
                went += y.night(lot.testBit(4) ? 1 : 0) >= 0 ? 1 : 0;
            }
            due.is(x, "lots(20, " + seed + ")", went);
            due.is("as by night()", x.digest(), y.digest());
        }
    }

    @Says("it by 16, cut, is odd: CLEAR")
    static void promise37_oddBy16IsClear() {
        // 48271, 144813 by 16 are 3016, 9050: even; 193084 by 16 is 12067: odd
        due.is(Due.line("w90 w90"), "lots(1, 1)", 0);
        due.is(Due.line("w90 w90"), "lots(1, 3)", 0);
        due.is(Due.line("w90 w90"), "lots(1, 4)", 1);
    }

    @Says("the first from a seed (1 .. 2147483646)")
    static void promise37_theLargestSeed() {
        // 2147483646 times 48271 is 2147483647 - 48271 = 2147435376: by 16 it is 134214711: odd
        due.is(Due.line("w90 w90"), "lots(1, 2147483646)", 1);
        // 30 times 48271 is 1448130, by 16 it is 90508: even
        due.is(Due.line("w90 w90"), "lots(1, 30)", 0);
    }

    @Says("truly")
    static void promise37_truly() {
        MoonLine x = Due.line("w90 w90");
        // the second number is 730423176, by 16 it is 45651448: even
        due.is(x, "lots(2, 4)", 1);
        due.is(x, "count(1)", 2);
        due.is(x, "count(2)", 2);
        due.person(x, 0, 5, 0);
        due.is(x, "undo(1)", 1);
        due.is(x, "count(1)", 1);
    }

    @Says("n (1 .. 20)")
    static void promise37_oneAnd20Nights() {
        MoonLine x = Due.line("w90");
        x.lots(1, 5);
        due.is(x, "count(1)", 1);
        x.lots(20, 5);
        due.is(x, "count(1)", 21);
    }

    @Says({"BAD", "n (1 .. 20)"})
    static void promise37_noSuchNumberOfNightsIsBad() {
        MoonLine x = Due.line("w90");
        for (int n : Due.outside(1, 20)) {
            due.refused(x, "lots(" + n + ", 1)", BAD);
        }
    }

    @Says({"BAD", "a seed (1 .. 2147483646)"})
    static void promise37_noSuchSeedIsBad() {
        MoonLine x = Due.line("w90");
        for (int seed : new int[] {0, -1, Due.MIN, 2147483647}) {
            due.refused(x, "lots(1, " + seed + ")", BAD);
        }
    }

    @Says("STATE: no PERSONS")
    static void promise37_withoutPersons() {
        MoonLine x = new MoonLine();
        due.refused(x, "lots(1, 1)", STATE);
        due.refused(x, "lots(0, 1)", BAD);
        due.refused(x, "lots(1, 0)", BAD);
    }

    @Says("FULL: with n more there would be more than 40 DEEDS")
    static void promise37_full() {
        MoonLine x = Due.line("w90");
        x.lots(20, 1);
        x.lots(19, 1);
        due.refused(x, "lots(2, 1)", FULL);
        due.refused(x, "lots(20, 1)", FULL);
        x.lots(1, 1);
        due.is(x, "count(2)", 40);
        due.refused(x, "lots(1, 1)", FULL);
        MoonLine y = Due.line("w90");
        y.lots(20, 1);
        y.lots(20, 1);
        due.is(y, "count(2)", 40);
    }

    @Says("(FULL last.)")
    static void promise37_fullLast() {
        MoonLine x = Due.line("w90");
        x.lots(20, 1);
        x.lots(20, 1);
        due.refused(x, "lots(21, 1)", BAD);
        due.refused(x, "lots(0, 1)", BAD);
        due.refused(x, "lots(1, 0)", BAD);
    }
}
