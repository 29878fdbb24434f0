/** Promises 38 to 44: asked, upper, lower, count, finding, findings, digest. */
public final class ToldTest {
    private static final int NONE = MoonLine.NONE, BAD = MoonLine.BAD;
    private static final Due due = new Due();

    public static void main(String[] args) {
        before();
        asked();
        counts();
        findings();
        digestOfNew();
        digestOfAll();
        due.end("ToldTest");
    }

    private static void before() {
        MoonLine x = new MoonLine();
        due.is("asked()", x.asked(), 0);
        due.is("upper()", x.upper(), 0);
        due.is("lower()", x.lower(), 1);
        due.is("finding()", x.finding(), 0);
        for (int f = 1; f <= 5; f++) {
            due.is("findings(" + f + ")", x.findings(f), 0);
        }
    }

    private static void asked() {
        MoonLine x = Due.line("w90 w20 s10");
        Due.fill(x, 0, 3, 4, 5);
        x.at(0, 2);
        due.is("at()", x.asked(), 5);
        x.row(1, 2);
        x.text(3, 3);
        x.put(3, 0, 99);
        x.mark(2, 2);
        x.rows(1, 3);
        x.merge(3, 4);
        x.message(1);
        x.count(0);
        x.price(0, 4);
        due.is("of another call", x.asked(), 5);
        x.at(0, 3);
        x.mean(5);
        x.person(3, 0);
        x.after(0);
        x.clear(0);
        due.is("of refused calls", x.asked(), 5);
        x.lay(0, 0, 1);
        due.is("lay()", x.asked(), 3);
        x.mean(0);
        due.is("mean()", x.asked(), 3);
        x.person(0, 5);
        due.is("person()", x.asked(), NONE);
        x.tonight();
        due.is("tonight()", x.asked(), 4);
        Due.fill(x, 0, 1);
        x.after(0);
        due.is("after()", x.asked(), 4);
        Due.fill(x, 0, 0, 1);
        x.clear(0);
        due.is("clear()", x.asked(), 3);
        due.is("upper() of clear()", x.upper(), 1);
        x.line(3);
        x.line(0);
        due.is("stays", x.asked(), 3);
    }

    private static void counts() {
        MoonLine x = Due.line("w90 p90 s10 l90 r90 d90 s90");
        x.row(0, 1);
        x.row(5, 0);
        x.row(3, 2);
        x.tear(3);
        x.text(3, 0);
        x.keep(1);
        x.trade(0, 1);
        x.night(1);
        x.night(0);
        x.keep(0);
        int[] want = {7, 2, 3, 5, 1, 1, 2, 3, 2, 2, 2};
        for (int what = 0; what <= 10; what++) {
            due.is("count(" + what + ")", x.count(what), want[what]);
        }
        MoonLine y = Due.line("r90 p90 w90 s90 d90");
        due.is("count(6) with the first one", y.count(6), 2);
        due.is("count(7) with the last one", y.count(7), 2);
        due.is("count(7) with the first one", Due.line("d90 s90").count(7), 2);
        due.is("count(11)", x.count(11), BAD);
        due.is("count(-1)", x.count(-1), BAD);
    }

    private static void findings() {
        MoonLine x = Due.line("w90 w90");
        x.at(0, 0);
        x.at(0, 0);
        due.is("NOTHING", x.finding(), 1);
        x.row(0, 0);
        x.lay(0, 0, 0);
        due.is("BEYOND", x.finding(), 2);
        x.mark(0, 1);
        x.mark(0, 2);
        x.mark(0, 3);
        due.is("UNLIKE", x.finding(), 3);
        x.mean(0);
        due.is("NOUGHT", x.finding(), 4);
        x.row(0, -1);
        x.text(0, -1);
        due.is("SIZE", x.finding(), 5);
        x.at(9, 9);
        x.night(7);
        x.at(0, 3);
        int[] want = {2, 2, 3, 1, 2};
        for (int f = 1; f <= 5; f++) {
            due.is("findings(" + f + ")", x.findings(f), want[f - 1]);
        }
        due.is("the latest", x.finding(), 2);
        due.is("findings(0)", x.findings(0), BAD);
        due.is("findings(6)", x.findings(6), BAD);
        due.is("findings(MIN)", x.findings(Integer.MIN_VALUE), BAD);
    }

    private static void digestOfNew() {
        long h = 17;
        for (int k = 0; k < 11; k++) {
            h = 31 * h;
        }
        for (int k = 0; k < 3 + 6 + 4; k++) {
            h = 31 * h - 1;
        }
        due.is("digest() of a new object", new MoonLine().digest(), h);
    }

    private static void digestOfAll() {
        MoonLine x = Due.line("w93 s12 r90");
        Due.fill(x, 1, 7, -8);
        x.row(4, 0);
        x.text(2, 2);
        x.put(2, 1, 200);
        x.trade(0, 1);
        x.keep(1);
        x.night(1);
        // behind the TRADE it is s w r: the WAITER GOES, the SLEEPER GIVES UP
        int[] told = {
            3, 1, 2, 1, 1, 1, 1, 1, 2, 2, 1,
            0, 9, 3, -9, 0, 0, 0,
            2, 1, 2, -9, 1, -9, 1,
            4, 9, 0, 0, 1, -9, 0,
            -1, 1, -1,
            -1, 2, 7, -8, -1, -1, 0, -1,
            11, 'w', '9', '3', ' ', 's', '1', '2', ' ', 'r', '9', '0', -1, 2, 32, -56, -1};
        long h = 17;
        for (int v : told) {
            h = 31 * h + v;
        }
        due.is("digest()", x.digest(), h);
    }
}
