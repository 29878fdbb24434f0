/** Promises 20 to 26: tonight, turn, after, soonest, rows, odds, mid. */
public final class TurnsTest {
    private static final int NONE = MoonLine.NONE, BAD = MoonLine.BAD;
    private static final Due due = new Due();

    public static void main(String[] args) {
        tonight();
        turn();
        after();
        nightsRefused();
        soonestAndRows();
        odds();
        mid();
        changesNothing();
        due.end("TurnsTest");
    }

    private static void tonight() {
        MoonLine x = Due.line("w10 w10 s10 w20");
        due.is("tonight()", x.tonight(), 0);
        due.is("who would GIVE UP", x.asked(), 6);
        x.night(1);
        due.is("tonight() in NIGHT 1", x.tonight(), 3);
        due.is("not those that did", x.asked(), 0);
        x = Due.line("s10 s90 s10");
        due.is("tonight(): all ASLEEP", x.tonight(), NONE);
        due.is("who would GIVE UP then", x.asked(), 5);
        x = Due.line("w90");
        x.night(1);
        due.is("tonight(): nobody in the LINE", x.tonight(), NONE);
        due.is("nobody would GIVE UP", x.asked(), 0);
    }

    private static void turn() {
        MoonLine x = Due.line("w90 w20 w90 d90");
        Due.fill(x, 0, 0, 1, 0, 1, 1);
        due.is("turn(0, 0)", x.turn(0, 0), 1);
        due.is("turn(1, 0): GIVES UP", x.turn(1, 0), NONE);
        due.is("turn(2, 0)", x.turn(2, 0), 3);
        due.is("turn(3, 0): ASLEEP", x.turn(3, 0), NONE);
        Due.fill(x, 1, 1, 1, 1, 1);
        due.is("turn(0, 1)", x.turn(0, 1), 0);
        due.is("turn(3, 1)", x.turn(3, 1), 3);
        x.row(2, 0);
        due.is("turn(0, 2)", x.turn(0, 2), NONE);
        x.night(1);
        due.is("turn(0, 1) of one that WENT", x.turn(0, 1), NONE);
        due.is("turn(1, 1) from NIGHT 1 on", x.turn(1, 1), 0);
        due.is("turn(3, 1) from NIGHT 1 on", x.turn(3, 1), 2);
        Due.fill(x, 3, 0, 0, 0, 0, 0, 0, 0, 0, 0, 0, 0, 0, 0, 0, 0, 0, 0, 0, 0, 1);
        due.is("turn(0, 3) of 20 NIGHTS", x.turn(0, 3), NONE);
    }

    private static void after() {
        MoonLine x = Due.line("w90 w20 w90 s30");
        Due.fill(x, 0, 1, 0);
        due.is("after(0)", x.after(0), 12);
        due.is("who GAVE UP", x.asked(), 2);
        x.night(0);
        x.night(0);
        Due.fill(x, 0, 1);
        due.is("after(0) in NIGHT 2", x.after(0), 4);
        due.is("all that GAVE UP", x.asked(), 10);
        x.row(0, 0);
        due.is("after(0) of no NIGHTS", x.after(0), 13);
        due.is("all that GAVE UP till now", x.asked(), 2);
        x = new MoonLine();
        x.row(0, 20);
        due.is("after(0) without PERSONS", x.after(0), 0);
    }

    private static void nightsRefused() {
        MoonLine x = Due.line("w90 w20");
        due.is("turn(2, 0)", x.turn(2, 0), BAD);
        due.is("turn(-1, 0)", x.turn(-1, 0), BAD);
        due.is("turn(0, 6)", x.turn(0, 6), BAD);
        due.is("after(6)", x.after(6), BAD);
        due.is("after(-1)", x.after(-1), BAD);
        due.finds("turn(0, 0)", x, x.turn(0, 0), 1);
        due.finds("after(0)", x, x.after(0), 1);
        x.row(0, 21);
        x.lay(0, 3, 2);
        due.finds("turn(0, 0) of 21 NIGHTS", x, x.turn(0, 0), 5);
        due.finds("after(0) of 21 NIGHTS", x, x.after(0), 5);
        x.row(0, 20);
        due.is("turn(0, 0) of 20 NIGHTS", x.turn(0, 0), NONE);
        due.is("after(0) of 20 NIGHTS", x.after(0), 0);
        x.lay(0, 19, 2);
        due.finds("turn(0, 0) with a 2", x, x.turn(0, 0), 3);
        due.finds("after(0) with a 2", x, x.after(0), 3);
        x.lay(0, 19, -1);
        due.finds("turn(0, 0) with a -1", x, x.turn(0, 0), 3);
        due.finds("after(0) with a -1", x, x.after(0), 3);
        Due.fill(x, 1, 3, 1);
        due.finds("turn(0, 1) with a 3 ahead", x, x.turn(0, 1), 3);
        due.finds("after(1) with a 3 ahead", x, x.after(1), 3);
        Due.fill(x, 1, 1, 2);
        due.finds("turn(0, 1): wrong behind its turn", x, x.turn(0, 1), 3);
    }

    private static void soonestAndRows() {
        MoonLine x = Due.line("w90 w30 s90 d90");
        due.is("soonest(0, 1)", x.soonest(0, 1), 0);
        due.is("soonest(1, 1)", x.soonest(1, 1), NONE);
        due.is("soonest(1, 10)", x.soonest(1, 10), 1);
        due.is("soonest(2, 10)", x.soonest(2, 10), NONE);
        due.is("soonest(3, 4)", x.soonest(3, 4), 3);
        due.is("soonest(3, 3)", x.soonest(3, 3), NONE);
        due.is("rows(0, 1)", x.rows(0, 1), 1);
        due.is("rows(0, 3)", x.rows(0, 3), 7);
        // 1 GOES if two of the first three NIGHTS are CLEAR
        due.is("rows(1, 3)", x.rows(1, 3), 4);
        due.is("rows(1, 10)", x.rows(1, 10), 512);
        due.is("rows(2, 10)", x.rows(2, 10), 0);
        // 3 is awake in NIGHTS 0 and 3; in 3 it GOES, if that is CLEAR, 0 WENT (1 is out by then)
        due.is("rows(3, 4)", x.rows(3, 4), 7);
        due.is("soonest(0, 0)", x.soonest(0, 0), BAD);
        due.is("soonest(0, 11)", x.soonest(0, 11), BAD);
        due.is("soonest(4, 1)", x.soonest(4, 1), BAD);
        due.is("rows(0, 0)", x.rows(0, 0), BAD);
        due.is("rows(0, 11)", x.rows(0, 11), BAD);
        due.is("rows(-1, 1)", x.rows(-1, 1), BAD);
        x.night(1);
        due.is("soonest() of one that WENT", x.soonest(0, 5), NONE);
        due.is("rows() of one that WENT", x.rows(0, 5), 0);
        due.is("soonest(1, 5)", x.soonest(1, 5), 0);
    }

    private static void odds() {
        MoonLine x = Due.line("w90 w30 s90");
        due.is("odds(0, 2, 3)", x.odds(0, 2, 3), 1);
        due.tells("odds(0, 2, 3)", x, 7, 16);
        // two or three of three
        x.odds(1, 10, 4);
        due.tells("odds(1, 10, 4)", x, 7, 27);
        // 12 to the tenth less 11 to the ninth times 12: in the ninth NIGHT it GIVES UP
        x.odds(0, 10, 1);
        due.tells("odds(0, 10, 1)", x, 5159780352L - 2357947691L, 5159780352L);
        x.odds(0, 0, 12);
        due.tells("odds(0, 0, 12)", x, 0, 1);
        x.odds(0, 10, 12);
        due.tells("odds(0, 10, 12)", x, 1, 1);
        x.odds(0, 10, 0);
        due.tells("odds(0, 10, 0)", x, 0, 1);
        x.odds(1, 2, 6);
        due.tells("odds(1, 2, 6)", x, 1, 4);
        due.is("odds(3, 1, 1)", x.odds(3, 1, 1), BAD);
        due.is("odds(0, 11, 1)", x.odds(0, 11, 1), BAD);
        due.is("odds(0, -1, 1)", x.odds(0, -1, 1), BAD);
        due.is("odds(0, 1, 13)", x.odds(0, 1, 13), BAD);
        due.is("odds(0, 1, -1)", x.odds(0, 1, -1), BAD);
        due.tells("refused ones", x, 1, 4);
    }

    private static void mid() {
        MoonLine x = Due.line("w90 w90 s90");
        due.is("mid(1, 5)", x.mid(1, 5), 1);
        due.tells("mid(1, 5)", x, 5, 12);
        // 0, 1, 2, 2 of 3 NIGHTS: (3 * 1 + 3 * 2 + 2) by 8
        x.mid(3, 6);
        due.tells("mid(3, 6)", x, 11, 8);
        x.mid(10, 12);
        due.tells("mid(10, 12)", x, 2, 1);
        x.mid(0, 3);
        due.tells("mid(0, 3)", x, 0, 1);
        x.mid(5, 0);
        due.tells("mid(5, 0)", x, 0, 1);
        x.mid(2, 6);
        due.tells("mid(2, 6)", x, 1, 1);
        MoonLine two = Due.line("w90 w90");
        two.mid(2, 12);
        due.tells("mid(2, 12) of two", two, 2, 1);
        due.is("mid(11, 1)", x.mid(11, 1), BAD);
        due.is("mid(-1, 1)", x.mid(-1, 1), BAD);
        due.is("mid(1, 13)", x.mid(1, 13), BAD);
        due.is("mid(1, -1)", x.mid(1, -1), BAD);
        due.tells("refused ones", x, 1, 1);
        MoonLine y = new MoonLine();
        due.is("mid(3, 4) without PERSONS", y.mid(3, 4), 1);
        due.tells("mid(3, 4) without PERSONS", y, 0, 1);
    }

    private static void changesNothing() {
        MoonLine x = Due.line("s50 p40 d30 r90 l20");
        Due.fill(x, 0, 1, 0, 1);
        x.night(1);
        long before = x.digest();
        x.tonight();
        x.turn(2, 0);
        x.after(0);
        x.soonest(2, 7);
        x.rows(2, 7);
        x.odds(2, 7, 5);
        x.mid(7, 5);
        due.is("aside", x.digest() == before ? 1 : 0, 1);
    }
}
