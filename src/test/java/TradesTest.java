/** Promises 27 to 30: push, pair, cheap, game. */
public final class TradesTest {
    private static final int NONE = MoonLine.NONE, BAD = MoonLine.BAD;
    private static final Due due = new Due();

    public static void main(String[] args) {
        push();
        pushFirstRow();
        pair();
        cheap();
        game();
        refused();
        changesNothing();
        due.end("TradesTest");
    }

    private static void push() {
        MoonLine x = Due.line("w90 w90 w90 w90 w90");
        due.is("push(0, 1, 0)", x.push(0, 1, 0), 0);
        rowIs(x, 0);
        due.is("push(3, 1, 0)", x.push(3, 1, 0), 3);
        rowIs(x, 0, 2, 1, 0);
        due.is("push(4, 1, 0)", x.push(4, 1, 0), NONE);
        rowIs(x, 0, 2, 1, 0);
        due.is("push(4, 2, 5)", x.push(4, 2, 5), 3);
        rowIs(x, 5, 3, 2, 1);
        due.is("push(4, 5, 5)", x.push(4, 5, 5), 0);
        rowIs(x, 5);
        due.is("push(4, 7, 5)", x.push(4, 7, 5), 0);
        x.night(1);
        due.is("push() of one that WENT", x.push(0, 7, 5), NONE);
        due.is("push(4, 1, 5)", x.push(4, 1, 5), 3);
        rowIs(x, 5, 2, 1, 0);
    }

    private static void pushFirstRow() {
        // the LOVER lets the WAITER behind it go ahead
        MoonLine x = Due.line("l90 w90 w90");
        due.is("push(0, 2, 1)", x.push(0, 2, 1), NONE);
        due.is("push(0, 3, 1)", x.push(0, 3, 1), 0);
        due.is("push(2, 1, 1)", x.push(2, 1, 1), 1);
        rowIs(x, 1, 1);
        x = Due.line("w90 w90 l90 w90 w90");
        due.is("push(4, 2, 1)", x.push(4, 2, 1), 3);
        // by 3 1 2 and 3 2 1 it GOES too: the first row counts
        rowIs(x, 1, 1, 3, 2);
    }

    private static void pair() {
        MoonLine x = Due.line("w90 w90 w90 s90");
        due.is("pair(0, 1, 2)", x.pair(0, 1, 2), 0);
        due.is("pair(0, 1, 1)", x.pair(0, 1, 1), NONE);
        due.is("pair(1, 2, 3)", x.pair(1, 2, 3), 0);
        due.is("pair(1, 2, 2)", x.pair(1, 2, 2), 2);
        due.is("pair(1, 0, 2)", x.pair(1, 0, 2), 1);
        due.is("pair(0, 2, 2)", x.pair(0, 2, 2), 1);
        due.is("pair(2, 1, 2)", x.pair(2, 1, 2), 3);
        due.is("pair(0, 3, 7)", x.pair(0, 3, 7), NONE);
        x.night(1);
        due.is("pair() with one that WENT", x.pair(0, 1, 7), NONE);
        due.is("pair(1, 0, 7) with one that WENT", x.pair(1, 0, 7), NONE);
    }

    private static void cheap() {
        MoonLine x = Due.line("w95 w91 w99 w92");
        due.is("cheap(0, 1)", x.cheap(0, 1), 0);
        due.is("cheap(1, 1)", x.cheap(1, 1), 6);
        due.is("cheap(2, 1)", x.cheap(2, 1), 10 + 14);
        due.is("cheap(3, 2)", x.cheap(3, 2), 11 + 3);
        due.is("cheap(3, 4)", x.cheap(3, 4), 0);
        x.price(1, 0);
        due.is("cheap(3, 2) by the new PRICE", x.cheap(3, 2), 11 + 2);
        x = Due.line("w99 w90 w90");
        due.is("cheap(2, 1)", x.cheap(2, 1), 9);
        due.is("cheap(2, 2)", x.cheap(2, 2), 0);
        x = Due.line("w90 w90 w90 w90 w90");
        due.is("cheap(4, 1)", x.cheap(4, 1), NONE);
        x = Due.line("l90 w99 w90 w90");
        due.is("cheap(2, 1) behind a LOVER", x.cheap(2, 1), 9);
        // one TRADE makes the dear one GIVE UP; two TRADES with others cost less
        x = Due.line("w19 w90 s90 w90");
        due.is("push(3, 2, 0)", x.push(3, 2, 0), 1);
        rowIs(x, 0, 0);
        due.is("cheap(3, 2)", x.cheap(3, 2), 0);
        x = Due.line("w10 w10");
        x.night(0);
        due.is("cheap() of one that GAVE UP", x.cheap(0, 1), NONE);
    }

    private static void game() {
        MoonLine x = Due.line("w90 w90 w90 w90 s90");
        due.is("game(0, 0)", x.game(0, 0), 0);
        due.is("game(0, 1)", x.game(0, 1), 1);
        due.is("game(1, 1)", x.game(1, 1), 1);
        due.is("game(2, 1)", x.game(2, 1), 0);
        // of two NIGHTS one may be cloudy, the second one too
        due.is("game(1, 2)", x.game(1, 2), 1);
        due.is("game(2, 2)", x.game(2, 2), 0);
        due.is("game(3, 2)", x.game(3, 2), 0);
        due.is("game(3, 3)", x.game(3, 3), 1);
        due.is("game(4, 4)", x.game(4, 4), 0);
        x = Due.line("w10");
        due.is("game(0, 1): no cloud may come", x.game(0, 1), 1);
        due.is("game(0, 2): a cloud comes in the first", x.game(0, 2), 0);
        x = Due.line("l90 w90");
        due.is("game(0, 1): the first LOVER has nobody to TRADE with", x.game(0, 1), 0);
        due.is("game(0, 2): the WAITER goes in one, a cloud comes in another", x.game(0, 2), 0);
        due.is("game(0, 3)", x.game(0, 3), 1);
        x = Due.line("w90 l90 w90");
        due.is("game(0, 1): not to TRADE is best", x.game(0, 1), 1);
        due.is("game(1, 1): by no way", x.game(1, 1), 0);
        x.night(1);
        due.is("game() of one that WENT", x.game(0, 4), 0);
    }

    private static void refused() {
        MoonLine x = Due.line("w90 w90");
        int[] wrong = {-1, 2, Integer.MAX_VALUE, Integer.MIN_VALUE};
        for (int i : wrong) {
            due.is("push(" + i + ", 1, 0)", x.push(i, 1, 0), BAD);
            due.is("pair(" + i + ", 1, 1)", x.pair(i, 1, 1), BAD);
            due.is("pair(0, " + i + ", 1)", x.pair(0, i, 1), BAD);
            due.is("cheap(" + i + ", 1)", x.cheap(i, 1), BAD);
            due.is("game(" + i + ", 1)", x.game(i, 1), BAD);
        }
        int[] wrongNights = {-1, 0, 8, Integer.MAX_VALUE};
        for (int n : wrongNights) {
            due.is("push(0, " + n + ", 0)", x.push(0, n, 0), BAD);
            due.is("pair(0, 1, " + n + ")", x.pair(0, 1, n), BAD);
            due.is("cheap(0, " + n + ")", x.cheap(0, n), BAD);
        }
        due.is("push(0, 1, 6)", x.push(0, 1, 6), BAD);
        due.is("push(0, 1, -1)", x.push(0, 1, -1), BAD);
        due.is("pair(1, 1, 2)", x.pair(1, 1, 2), BAD);
        due.is("game(0, 5)", x.game(0, 5), BAD);
        due.is("game(0, -1)", x.game(0, -1), BAD);
        due.is("ROWS", x.count(8), 0);
        due.is("push(0, 7, 5)", x.push(0, 7, 5), 0);
        due.is("ROWS then", x.count(8), 1);
    }

    private static void changesNothing() {
        MoonLine x = Due.line("s50 p40 d30 r90 l20");
        x.night(1);
        long before = x.digest();
        x.pair(2, 3, 7);
        x.cheap(2, 7);
        x.game(2, 4);
        due.is("aside", x.digest() == before ? 1 : 0, 1);
    }

    private static void rowIs(MoonLine x, int r, int... places) {
        for (int k = 0; k < places.length; k++) {
            due.is("at(" + r + ", " + k + ")", x.at(r, k), 1);
            due.is("asked()", x.asked(), places[k]);
        }
        due.finds("the ROW's end", x, x.at(r, places.length), 2);
    }
}
