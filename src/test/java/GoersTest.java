/** Promises 31 and 32: kinds, clear. */
public final class GoersTest {
    private static final int NONE = MoonLine.NONE, BAD = MoonLine.BAD;
    private static final int W = 1, P = 2, S = 4, L = 8, R = 16, D = 32, ALL = 63;
    private static final Due due = new Due();

    public static void main(String[] args) {
        due.run(GoersTest.class);
    }

    // ---- 31 kinds

    /** By nights that are told as a text, and who went in each. */
    private static void kindsAre(MoonLine x, int i, String nights, int want, int... goers) {
        Due.nights(x, 0, nights);
        Due.fill(x, 1, goers);
        due.aside(x, "kinds(" + i + ", 0, 1)", want);
    }

    @Says({"Of which KINDS (bits) a PERSON can be by NIGHTS in a ROW, and who WENT in each", "told by bits"})
    static void promise31_whichKinds() {
        MoonLine x = Due.line("w90 w90 w90");
        kindsAre(x, 0, "11", W | P | R | D, 0, 1);
        kindsAre(x, 1, "11", W | P | R, 0, 1);
        kindsAre(x, 0, "11", S | L, 1, 2);
    }

    @Says("a PERSON can be")
    static void promise31_whateverItIs() {
        MoonLine x = Due.line("s90 w90 w90");
        kindsAre(x, 0, "11", W | P | R | D, 0, 1);
        due.person(x, 0, 0, 2);
    }

    @Says("Of which KINDS (bits)")
    static void promise31_ofNoKind() {
        MoonLine x = Due.line("w90 w90 w90");
        kindsAre(x, 2, "11", 0, 1, 2);
        kindsAre(x, 0, "11", 0, 1, 0);
    }

    @Says("Of which KINDS (bits)")
    static void promise31_ofAllKinds() {
        MoonLine x = Due.line("w90 w90 w90");
        kindsAre(x, 2, "1", ALL, 0);
        kindsAre(x, 0, "0", ALL, NONE);
    }

    @Says("Of which KINDS (bits)")
    static void promise31_byPushing() {
        // in NIGHT 2 a DREAMER is passed by who pushes; in NIGHT 3 it is awake
        MoonLine x = Due.line("d90 w90 w90");
        x.night(0);
        x.night(0);
        kindsAre(x, 1, "01", P | R, NONE, 1);
        kindsAre(x, 1, "01", W | S | L | D, NONE, 0);
        MoonLine y = Due.line("d90 d90 w90");
        y.night(0);
        y.night(0);
        kindsAre(y, 2, "01", R, NONE, 2);
    }

    @Says("(NONE: nobody)")
    static void promise31_nobodyWent() {
        MoonLine x = Due.line("w90 w90");
        kindsAre(x, 0, "01", W | P | R, NONE, 0);
        kindsAre(x, 0, "1", 0, NONE);
        kindsAre(x, 0, "0", 0, 0);
        kindsAre(Due.line("w90 s90"), 0, "1", S, NONE);
    }

    @Says("from this NIGHT on")
    static void promise31_fromThisNightOn() {
        MoonLine x = Due.line("w90 w90 w90");
        x.night(0);
        kindsAre(x, 0, "11", S | L | D, 1, 2);
        kindsAre(x, 0, "1", W | P | R, 0);
    }

    @Says("a PERSON can be")
    static void promise31_outOfTheLine() {
        MoonLine x = Due.line("w90 w90 w90");
        x.night(1);
        kindsAre(x, 0, "1", ALL, 1);
        kindsAre(x, 0, "1", 0, 0);
    }

    @Says("by NIGHTS in a ROW")
    static void promise31_byNoNights() {
        kindsAre(Due.line("w90"), 0, "", ALL);
    }

    @Says("SIZE: more than 20")
    static void promise31_by20Nights() {
        MoonLine x = Due.line("w90 w90");
        x.row(0, 20);
        x.row(1, 20);
        for (int k = 0; k < 20; k++) {
            x.lay(1, k, NONE);
        }
        due.is(x, "kinds(0, 0, 1)", ALL);
        x.lay(0, 19, 1);
        due.is(x, "kinds(0, 0, 1)", ALL);
        x.row(2, 21);
        due.finds(x, "kinds(0, 2, 1)", Due.SIZE);
        due.finds(x, "kinds(0, 0, 2)", Due.SIZE);
        due.finds(x, "kinds(0, 2, 2)", Due.SIZE);
    }

    @Says("BAD")
    static void promise31_noSuchNumberIsBad() {
        MoonLine x = Due.line("w90 w90");
        x.row(0, 0);
        x.row(5, 0);
        for (int i : Due.outside(0, 1)) {
            due.refused(x, "kinds(" + i + ", 0, 0)", BAD);
        }
        for (int r : Due.outside(0, 5)) {
            due.refused(x, "kinds(0, " + r + ", 0)", BAD);
            due.refused(x, "kinds(0, 0, " + r + ")", BAD);
        }
        MoonLine y = new MoonLine();
        y.row(0, 0);
        due.refused(y, "kinds(0, 0, 0)", BAD);
    }

    @Says("NOTHING")
    static void promise31_aMissingRow() {
        MoonLine x = Due.line("w90 w90");
        x.row(0, 0);
        due.finds(x, "kinds(0, 0, 1)", Due.NOTHING);
        due.finds(x, "kinds(0, 1, 0)", Due.NOTHING);
        due.finds(x, "kinds(0, 1, 1)", Due.NOTHING);
    }

    @Says("UNLIKE")
    static void promise31_noNightIsUnlike() {
        MoonLine x = Due.line("w90 w90 w90");
        Due.fill(x, 1, 0, 0, 0);
        for (int v : new int[] {2, -1, NONE, Due.MIN, Due.MAX}) {
            Due.fill(x, 0, 0, 0, v);
            due.finds(x, "kinds(0, 0, 1)", Due.UNLIKE);
            Due.fill(x, 0, v, 0, 0);
            due.finds(x, "kinds(0, 0, 1)", Due.UNLIKE);
        }
    }

    @Says("UNLIKE")
    static void promise31_noPersonIsUnlike() {
        MoonLine x = Due.line("w90 w90 w90");
        Due.fill(x, 0, 0, 0, 0);
        for (int v : new int[] {3, -1, -8, -10, Due.MIN, Due.MAX}) {
            Due.fill(x, 1, 0, 0, v);
            due.finds(x, "kinds(0, 0, 1)", Due.UNLIKE);
            Due.fill(x, 1, v, 0, 0);
            due.finds(x, "kinds(0, 0, 1)", Due.UNLIKE);
        }
    }

    @Says({"then SIZE: not as many", "not as many as due"})
    static void promise31_notAsMany() {
        MoonLine x = Due.line("w90 w90 w90");
        x.row(0, 2);
        x.row(1, 3);
        x.row(2, 0);
        due.finds(x, "kinds(0, 0, 1)", Due.SIZE);
        due.finds(x, "kinds(0, 1, 0)", Due.SIZE);
        due.finds(x, "kinds(0, 2, 0)", Due.SIZE);
        due.finds(x, "kinds(0, 0, 2)", Due.SIZE);
    }

    @Says("UNLIKE (each of the first one ahead); then SIZE: not as many")
    static void promise31_theOrderOfRefusals() {
        MoonLine x = Due.line("w90 w90 w90");
        // 0: too many, none as told; 1: a number that is none; 2: missing; 3: fine
        x.row(0, 21);
        x.lay(0, 0, 7);
        Due.fill(x, 1, 0, 7);
        x.row(3, 3);
        due.refused(x, "kinds(3, 0, 2)", BAD);
        due.finds(x, "kinds(0, 0, 2)", Due.SIZE);
        due.finds(x, "kinds(0, 0, 1)", Due.SIZE);
        due.finds(x, "kinds(0, 1, 2)", Due.UNLIKE);
        due.finds(x, "kinds(0, 1, 0)", Due.UNLIKE);
        due.finds(x, "kinds(0, 2, 0)", Due.NOTHING);
        due.finds(x, "kinds(0, 2, 1)", Due.NOTHING);
        due.finds(x, "kinds(0, 3, 0)", Due.SIZE);
        due.finds(x, "kinds(0, 3, 1)", Due.UNLIKE);
        due.finds(x, "kinds(0, 1, 3)", Due.UNLIKE);
    }

    // ---- 32 clear

    private static void clearIs(MoonLine x, long ways, int always, int... goers) {
        Due.fill(x, 4, goers);
        x.merge(3, 3);
        long before = x.digest();
        due.tells(x, "clear(4)", ways, 1);
        due.is(x, "asked()", always);
        due.is("clear(4), then digest() as before", x.digest(), before);
    }

    @Says("By how many rows of NIGHTS (0 to 10) just those in a ROW WENT (NONE: nobody), told by upper()")
    static void promise32_byHowManyRows() {
        MoonLine x = Due.line("w90 s90 w30");
        clearIs(x, 1, 5, 0, NONE, 2);
        clearIs(x, 1, 1, 0, NONE, NONE);
        // nobody awake is in the LINE any more: CLEAR or not is all the same
        clearIs(x, 4, 3, 0, 2, NONE, NONE);
    }

    @Says("(lower() is 1)")
    static void promise32_lowerIs1() {
        MoonLine x = Due.line("w90 w90");
        x.odds(0, 1, 5);
        Due.fill(x, 0, 0);
        due.tells(x, "clear(0)", 1, 1);
        x.odds(0, 1, 5);
        Due.fill(x, 0, 1);
        due.tells(x, "clear(0)", 0, 1);
    }

    @Says("NIGHTS (bits) that were CLEAR in all of these by asked()")
    static void promise32_clearInAllOfThese() {
        // in NIGHT 2 nobody is awake: it is CLEAR by one of two rows
        MoonLine x = Due.line("d90 w20");
        clearIs(x, 2, 8, NONE, NONE, NONE, 0);
        clearIs(x, 2, 2 | 8, NONE, 1, NONE, 0);
        clearIs(x, 2, 1, 0, NONE, NONE);
        clearIs(x, 1, 3, 0, 1);
    }

    @Says("(0: there are none)")
    static void promise32_byNoRow() {
        MoonLine x = Due.line("w90 s90 w30");
        clearIs(x, 0, 0, 2, 0);
        clearIs(x, 0, 0, 1);
        clearIs(x, 0, 0, NONE, NONE, NONE, 2);
    }

    @Says("(0: there are none)")
    static void promise32_noNightWasClearInAll() {
        clearIs(Due.line("s20"), 8, 0, NONE, NONE, NONE);
        clearIs(Due.line("w90"), 1, 0, NONE, NONE);
    }

    @Says("rows of NIGHTS (0 to 10)")
    static void promise32_noNights() {
        clearIs(Due.line("w90"), 1, 0);
        clearIs(new MoonLine(), 1, 0);
    }

    @Says("rows of NIGHTS (0 to 10)")
    static void promise32_10Nights() {
        MoonLine x = Due.line("w90 s90 w30");
        clearIs(x, 256, 3, 0, 2, NONE, NONE, NONE, NONE, NONE, NONE, NONE, NONE);
        MoonLine y = Due.line("d90 w90");
        y.trade(0, 1);
        // 1 in NIGHT 0, 0 in NIGHT 9 is too late: behind its ninth NIGHT it GAVE UP
        clearIs(y, 0, 0, 1, NONE, NONE, NONE, NONE, NONE, NONE, NONE, NONE, 0);
        clearIs(new MoonLine(), 1024, 0, NONE, NONE, NONE, NONE, NONE, NONE, NONE, NONE, NONE, NONE);
    }

    @Says("By how many rows of NIGHTS")
    static void promise32_fromThisNightOn() {
        MoonLine x = Due.line("w90 s90 w30");
        x.night(1);
        clearIs(x, 1, 2, NONE, 2);
        clearIs(x, 0, 0, 0);
    }

    @Says("BAD")
    static void promise32_noSuchRowIsBad() {
        MoonLine x = Due.line("w90 w90");
        x.row(0, 1);
        x.row(5, 1);
        for (int r : Due.outside(0, 5)) {
            due.refused(x, "clear(" + r + ")", BAD);
        }
    }

    @Says("NOTHING")
    static void promise32_aMissingRow() {
        MoonLine x = Due.line("w90 w90");
        due.finds(x, "clear(0)", Due.NOTHING);
        due.finds(x, "clear(5)", Due.NOTHING);
    }

    @Says("SIZE: more than 10")
    static void promise32_moreThan10IsSize() {
        MoonLine x = Due.line("w90 w90");
        x.row(0, 10);
        due.is(x, "clear(0)", 1);
        x.row(0, 11);
        due.finds(x, "clear(0)", Due.SIZE);
        x.row(0, 40);
        due.finds(x, "clear(0)", Due.SIZE);
    }

    @Says("UNLIKE")
    static void promise32_noPersonIsUnlike() {
        MoonLine x = Due.line("w90 w90");
        for (int v : new int[] {2, 7, -1, -8, -10, Due.MIN, Due.MAX}) {
            Due.fill(x, 0, 0, v);
            due.finds(x, "clear(0)", Due.UNLIKE);
            Due.fill(x, 0, v, 0);
            due.finds(x, "clear(0)", Due.UNLIKE);
        }
        MoonLine y = new MoonLine();
        y.row(0, 1);
        due.finds(y, "clear(0)", Due.UNLIKE);
    }

    @Says("(In this order.)")
    static void promise32_sizeAheadOfUnlike() {
        MoonLine x = Due.line("w90 w90");
        x.row(0, 11);
        x.lay(0, 0, 5);
        due.finds(x, "clear(0)", Due.SIZE);
    }
}
