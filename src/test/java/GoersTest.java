/** Promises 31 and 32: kinds, clear. */
public final class GoersTest {
    private static final int NONE = MoonLine.NONE, BAD = MoonLine.BAD;
    private static final int W = 1, P = 2, S = 4, L = 8, R = 16, D = 32, ALL = 63;
    private static final Due due = new Due();

    public static void main(String[] args) {
        kinds();
        kindsByPushing();
        kindsRefused();
        clear();
        clearRefused();
        due.end("GoersTest");
    }

    private static void kinds() {
        MoonLine x = Due.line("w90 w90 w90");
        Due.fill(x, 0, 1, 1);
        Due.fill(x, 1, 0, 1);
        due.is("who went first", x.kinds(0, 0, 1), W | P | R | D);
        due.is("who went second", x.kinds(1, 0, 1), W | P | R);
        Due.fill(x, 1, 1, 2);
        due.is("who was passed", x.kinds(0, 0, 1), S | L);
        due.is("another one", x.kinds(2, 0, 1), 0);
        Due.fill(x, 1, 1, 0);
        due.is("by none", x.kinds(0, 0, 1), 0);
        x.row(0, 0);
        x.row(1, 0);
        due.is("by no NIGHTS", x.kinds(0, 0, 1), ALL);
        Due.fill(x, 0, 0, 1);
        Due.fill(x, 1, NONE, 0);
        due.is("awake in NIGHT 1", x.kinds(0, 0, 1), W | P | R);
        Due.fill(x, 1, 0, 1);
        due.is("who can't go by a cloud", x.kinds(0, 0, 1), 0);
        Due.fill(x, 0, 1, 1);
        Due.fill(x, 1, 1, 2);
        x.night(0);
        due.is("from NIGHT 1 on", x.kinds(0, 0, 1), S | L | D);
        due.is("kinds() with one ROW", x.kinds(0, 0, 0), 0);
    }

    private static void kindsByPushing() {
        // in NIGHT 2 a DREAMER is passed by who pushes; in NIGHT 3 it is awake
        MoonLine x = Due.line("d90 w90 w90");
        x.night(0);
        x.night(0);
        Due.fill(x, 0, 0, 1);
        Due.fill(x, 1, NONE, 1);
        due.is("who passed it", x.kinds(1, 0, 1), P | R);
        Due.fill(x, 1, NONE, 0);
        due.is("who did not pass it", x.kinds(1, 0, 1), W | S | L | D);
        x = Due.line("d90 d90 w90");
        x.night(0);
        x.night(0);
        Due.fill(x, 0, 0, 1);
        Due.fill(x, 1, NONE, 2);
        due.is("who passed two", x.kinds(2, 0, 1), R);
        long before = x.digest();
        x.kinds(2, 0, 1);
        due.is("aside", x.digest() == before ? 1 : 0, 1);
    }

    private static void kindsRefused() {
        MoonLine x = Due.line("w90 w90");
        due.is("kinds(2, 0, 1)", x.kinds(2, 0, 1), BAD);
        due.is("kinds(-1, 0, 1)", x.kinds(-1, 0, 1), BAD);
        due.is("kinds(0, 6, 1)", x.kinds(0, 6, 1), BAD);
        due.is("kinds(0, 0, 6)", x.kinds(0, 0, 6), BAD);
        due.is("kinds(0, 0, -1)", x.kinds(0, 0, -1), BAD);
        due.finds("both missing", x, x.kinds(0, 0, 1), 1);
        x.row(0, 20);
        due.finds("one missing", x, x.kinds(0, 0, 1), 1);
        due.finds("the other missing", x, x.kinds(0, 1, 0), 1);
        x.row(1, 21);
        due.finds("21 in the second", x, x.kinds(0, 0, 1), 5);
        due.finds("21 in the first", x, x.kinds(0, 1, 0), 5);
        due.finds("21 in the first, the second missing", x, x.kinds(0, 1, 2), 5);
        x.lay(0, 19, 2);
        due.finds("a 2 among NIGHTS, 21 in the second", x, x.kinds(0, 0, 1), 3);
        x.lay(0, 19, 0);
        x.row(1, 3);
        due.finds("not as many", x, x.kinds(0, 0, 1), 5);
        x.lay(1, 2, 2);
        due.finds("no PERSON in the second", x, x.kinds(0, 0, 1), 3);
        x.lay(1, 2, -1);
        due.finds("a -1 in the second", x, x.kinds(0, 0, 1), 3);
        Due.fill(x, 2, NONE, NONE, NONE);
        Due.fill(x, 3, 0, 0, 0);
        due.is("three of each", x.kinds(0, 3, 2), ALL);
        due.finds("NONE among NIGHTS", x, x.kinds(0, 2, 2), 3);
    }

    private static void clear() {
        MoonLine x = Due.line("w90 s90 w30");
        clearIs(x, 1, 5, 0, NONE, 2);
        clearIs(x, 1, 1, 0, NONE, NONE);
        clearIs(x, 0, 0, 2, 0);
        clearIs(x, 0, 0, NONE, NONE, NONE, 2);
        // nobody awake is in the LINE any more: CLEAR or not is all the same
        clearIs(x, 4, 3, 0, 2, NONE, NONE);
        clearIs(x, 1, 0);
        clearIs(x, 1, 0, NONE, NONE);
        clearIs(x, 256, 3, 0, 2, NONE, NONE, NONE, NONE, NONE, NONE, NONE, NONE);
        x.night(1);
        clearIs(x, 1, 2, NONE, 2);
        clearIs(x, 0, 0, 0);
        x = Due.line("s20");
        clearIs(x, 8, 0, NONE, NONE, NONE);
        x = new MoonLine();
        clearIs(x, 4, 0, NONE, NONE);
    }

    private static void clearIs(MoonLine x, long ways, int always, int... goers) {
        Due.fill(x, 4, goers);
        x.merge(3, 3);
        due.is("clear(4)", x.clear(4), 1);
        due.is("asked()", x.asked(), always);
        due.tells("clear(4)", x, ways, 1);
    }

    private static void clearRefused() {
        MoonLine x = Due.line("w90 w90");
        due.is("clear(6)", x.clear(6), BAD);
        due.is("clear(-1)", x.clear(-1), BAD);
        due.finds("clear(0)", x, x.clear(0), 1);
        x.row(0, 11);
        x.lay(0, 0, 5);
        due.finds("clear(0) of 11", x, x.clear(0), 5);
        x.row(0, 10);
        due.is("clear(0) of 10", x.clear(0), 1);
        x.lay(0, 9, 2);
        due.finds("clear(0) with no PERSON", x, x.clear(0), 3);
        x.lay(0, 9, -2);
        due.finds("clear(0) with a -2", x, x.clear(0), 3);
        x = new MoonLine();
        x.row(0, 1);
        due.finds("clear(0) without PERSONS", x, x.clear(0), 3);
        due.tells("refused ones", x, 0, 1);
    }
}
