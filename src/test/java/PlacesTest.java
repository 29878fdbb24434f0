/** Promises 33 to 37: lies, merge, merged, message, lots. */
public final class PlacesTest {
    private static final int BAD = MoonLine.BAD, STATE = MoonLine.STATE, FULL = MoonLine.FULL;
    private static final Due due = new Due();

    public static void main(String[] args) {
        lies();
        liesRefused();
        merge();
        merged();
        mergedRefused();
        message();
        lots();
        lotsRefused();
        due.end("PlacesTest");
    }

    private static void lies() {
        MoonLine x = Due.line("w90 w90 w90 w90");
        liesAre(x, 0, 24);
        liesAre(x, 0, 6, 1, 0);
        liesAre(x, 0, 1, 1, 0, 2, 1, 3, 2);
        // each of two can't stand just behind the same one, nor one behind two, nor two behind each other
        liesAre(x, 1, 12, 1, 0, 2, 0);
        liesAre(x, 1, 12, 1, 0, 1, 2);
        liesAre(x, 1, 12, 1, 0, 0, 1);
        liesAre(x, 0, 6, 1, 0, 1, 0);
        liesAre(x, 1, 6, 1, 0, 1, 0, 2, 0);
        liesAre(x, 1, 4, 0, 1, 1, 2, 2, 3, 3, 0);
        // 3 0 1 2, 2 3 0 1 and 1 2 3 0 have the two that say the same and two more
        liesAre(x, 4, 3, 1, 0, 2, 1, 3, 2, 0, 3, 0, 3, 1, 3, 2, 0, 0, 2);
        x.night(1);
        liesAre(x, 0, 6, 1, 0);
        liesAre(Due.line("w90"), 0, 1);
    }

    private static void liesAre(MoonLine x, int fewest, long orders, int... pairs) {
        Due.fill(x, 3, pairs);
        x.odds(0, 1, 5);
        due.is("lies(3)", x.lies(3), fewest);
        due.tells("lies(3)", x, orders, 1);
    }

    private static void liesRefused() {
        MoonLine x = new MoonLine();
        due.is("lies(6) without PERSONS", x.lies(6), BAD);
        due.is("lies(0) without PERSONS", x.lies(0), STATE);
        x = Due.line("w90 w90");
        due.is("lies(-1)", x.lies(-1), BAD);
        due.finds("lies(0)", x, x.lies(0), 1);
        Due.fill(x, 0, 0, 1, 9);
        due.finds("not by pairs", x, x.lies(0), 5);
        x.row(0, 18);
        due.finds("too many", x, x.lies(0), 5);
        x.row(0, 16);
        due.finds("the same twice", x, x.lies(0), 3);
        Due.fill(x, 0, 0, 2);
        due.finds("no PERSON", x, x.lies(0), 3);
        Due.fill(x, 0, 0, 1, -9, 1);
        due.finds("NONE is no PERSON", x, x.lies(0), 3);
        due.tells("refused ones", x, 0, 1);
        Due.fill(x, 0, 0, 1, 0, 1, 0, 1, 0, 1, 1, 0, 1, 0, 1, 0, 1, 0);
        due.is("eight pairs", x.lies(0), 4);
        due.tells("eight pairs", x, 2, 1);
    }

    private static void merge() {
        MoonLine x = Due.line("w90");
        x.odds(0, 1, 5);
        for (int a = 0; a <= 20; a++) {
            for (int b = 0; b <= 20; b++) {
                due.is("merge(" + a + ", " + b + ")", x.merge(a, b), 1);
                due.tells("merge(" + a + ", " + b + ")", x, ways(a, b), 1);
            }
        }
        int[] wrong = {-1, 21, Integer.MAX_VALUE, Integer.MIN_VALUE};
        for (int a : wrong) {
            due.is("merge(" + a + ", 1)", x.merge(a, 1), BAD);
            due.is("merge(1, " + a + ")", x.merge(1, a), BAD);
        }
        due.tells("refused ones", x, 137846528820L, 1);
    }

    private static long ways(int a, int b) {
        long[][] all = new long[a + 1][b + 1];
        for (int i = 0; i <= a; i++) {
            for (int j = 0; j <= b; j++) {
                all[i][j] = i == 0 || j == 0 ? 1 : all[i - 1][j] + all[i][j - 1];
            }
        }
        return all[a][b];
    }

    private static void merged() {
        MoonLine x = new MoonLine();
        Due.fill(x, 0, 1, 2, 3);
        Due.fill(x, 1, 1, 2, 4);
        mergedIs(x, 1, 1, 2, 1, 2, 4, 3);
        mergedIs(x, 1, 1, 1, 2, 2, 3, 4);
        mergedIs(x, 1, 1, 2, 3, 1, 2, 4);
        mergedIs(x, 0, 1, 2, 4, 3, 1, 2);
        mergedIs(x, 0, 1, 2, 1, 2, 3, 3);
        mergedIs(x, 0, 2, 1, 1, 2, 3, 4);
        x.row(0, 0);
        mergedIs(x, 1, 1, 2, 4);
        mergedIs(x, 0, 1, 4, 2);
        x.row(1, 0);
        mergedIs(x, 1);
        x.row(0, 20);
        x.row(1, 20);
        x.row(2, 40);
        due.is("merged() of 40", x.merged(0, 1, 2), 1);
        x.lay(2, 39, 1);
        due.is("merged() of 40 with another end", x.merged(0, 1, 2), 0);
        Due.fill(x, 3, 5, 6);
        Due.fill(x, 4, 5, 5, 6, 6);
        due.is("a ROW with itself", x.merged(3, 3, 4), 1);
        x.row(5, 0);
        due.is("a ROW of itself and none", x.merged(3, 5, 3), 1);
        x.row(0, 40);
        due.is("40 and none", x.merged(5, 0, 0), 1);
    }

    private static void mergedIs(MoonLine x, int answer, int... both) {
        Due.fill(x, 2, both);
        due.is("merged(0, 1, 2)", x.merged(0, 1, 2), answer);
        due.is("merged(1, 0, 2)", x.merged(1, 0, 2), answer);
    }

    private static void mergedRefused() {
        MoonLine x = new MoonLine();
        due.is("merged(6, 0, 0)", x.merged(6, 0, 0), BAD);
        due.is("merged(0, -1, 0)", x.merged(0, -1, 0), BAD);
        due.is("merged(0, 0, 6)", x.merged(0, 0, 6), BAD);
        x.row(0, 1);
        x.row(1, 1);
        due.finds("the first missing", x, x.merged(2, 0, 1), 1);
        due.finds("the second missing", x, x.merged(0, 2, 1), 1);
        due.finds("the third missing", x, x.merged(0, 1, 2), 1);
        due.finds("not as many", x, x.merged(0, 1, 0), 5);
        x.row(2, 3);
        due.finds("more than both", x, x.merged(0, 1, 2), 5);
        x.row(0, 40);
        x.row(1, 40);
        due.finds("40 and 40", x, x.merged(0, 1, 2), 5);
    }

    private static void message() {
        MoonLine x = Due.line("w90 w90 d90 s90 w90 w90 w10");
        int[] nights = {0, 1, 1, 2, 3, 3, 4};
        for (int i = 0; i < 7; i++) {
            due.is("message(" + i + ")", x.message(i), nights[i]);
        }
        x.night(1);
        // w d s w w in NIGHT 1
        int[] later = {0, 0, 1, 2, 3, 3};
        for (int i = 1; i < 6; i++) {
            due.is("message(" + i + ") in NIGHT 1", x.message(i), later[i]);
        }
        due.is("message() of one that WENT", x.message(0), STATE);
        due.is("message() of one that GAVE UP", x.message(6), STATE);
        due.is("message(7)", x.message(7), BAD);
        due.is("message(-1)", x.message(-1), BAD);
        due.is("message(0) without PERSONS", new MoonLine().message(0), BAD);
    }

    private static void lots() {
        for (int seed : new int[] {1, 7, 2147483646, 123456789}) {
            MoonLine x = Due.line("w90 d90 w40 s90 p90 l90 r20");
            MoonLine y = Due.line("w90 d90 w40 s90 p90 l90 r20");
            java.math.BigInteger lot = java.math.BigInteger.valueOf(seed);
            int went = 0;
            for (int k = 0; k < 20; k++) {
                lot = lot.multiply(java.math.BigInteger.valueOf(48271)).mod(java.math.BigInteger.valueOf(2147483647));
                went += y.night(lot.testBit(4) ? 1 : 0) >= 0 ? 1 : 0;
            }
            due.is("lots(20, " + seed + ")", x.lots(20, seed), went);
            due.is("as by night()", x.digest() == y.digest() ? 1 : 0, 1);
        }
        // 48271 by 16 is 3016: even
        MoonLine x = Due.line("w90 w90");
        due.is("lots(1, 1)", x.lots(1, 1), 0);
        // 144813 by 16 is 9050: even; 193084 by 16 is 12067: odd
        due.is("lots(1, 4)", x.lots(1, 4), 1);
        due.is("DEEDS", x.count(2), 2);
        due.is("the NIGHT", x.count(1), 2);
        due.is("undo(1)", x.undo(1), 1);
    }

    private static void lotsRefused() {
        MoonLine x = new MoonLine();
        due.is("lots(1, 1) without PERSONS", x.lots(1, 1), STATE);
        due.is("lots(0, 1) without PERSONS", x.lots(0, 1), BAD);
        x = Due.line("w90");
        due.is("lots(21, 1)", x.lots(21, 1), BAD);
        due.is("lots(-1, 1)", x.lots(-1, 1), BAD);
        due.is("lots(1, 0)", x.lots(1, 0), BAD);
        due.is("lots(1, -5)", x.lots(1, -5), BAD);
        due.is("lots(1, 2147483647)", x.lots(1, 2147483647), BAD);
        due.is("DEEDS", x.count(2), 0);
        x.lots(20, 1);
        x.lots(19, 2147483646);
        due.is("lots(2, 1) behind 39", x.lots(2, 1), FULL);
        due.is("lots(0, 1) behind 39", x.lots(0, 1), BAD);
        due.is("DEEDS", x.count(2), 39);
        x.lots(1, 1);
        due.is("DEEDS", x.count(2), 40);
        due.is("lots(1, 1) behind 40", x.lots(1, 1), FULL);
    }
}
