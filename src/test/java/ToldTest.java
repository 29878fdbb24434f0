import java.util.ArrayList;
import java.util.List;

/** Promises 38 to 44: asked, upper, lower, count, finding, findings, digest. */
public final class ToldTest {
    private static final int NONE = MoonLine.NONE, BAD = MoonLine.BAD;
    private static final Due due = new Due();

    public static void main(String[] args) {
        due.run(ToldTest.class);
    }

    /** All the calls that tell something: which of them change asked(), upper() and lower()? */
    private static final String[] CALLS = {
        "row(1, 2)", "tear(1)", "row(1, 3)", "copy(0, 0, 1, 0, 2)", "text(3, 4)", "put(3, 0, 99)", "fault(0)",
        "mark(2, 2)", "price(0, 4)", "trade(0, 1)", "keep(1)", "night(1)", "lots(1, 4)", "on(1)", "undo(0)",
        "turn(1, 5)", "soonest(1, 4)", "rows(1, 4)", "push(1, 1, 2)", "pair(0, 1, 4)", "cheap(1, 1)", "game(1, 2)",
        "kinds(1, 5, 4)", "merged(3, 3, 5)", "message(1)", "count(0)", "finding()", "findings(1)", "digest()",
        "line(0)"};

    private static MoonLine ready() {
        MoonLine x = Due.line("w90 w20 s10");
        Due.fill(x, 0, 31, 41, 51);
        Due.fill(x, 3, 1);
        Due.fill(x, 4, 0, 1);
        Due.nights(x, 5, "11");
        return x;
    }

    // ---- 38 asked

    @Says("0 before")
    static void promise38_before() {
        due.is(new MoonLine(), "asked()", 0);
        MoonLine x = new MoonLine();
        due.finds(x, "at(0, 0)", Due.NOTHING);
        due.refused(x, "mean(9)", BAD);
        due.is(x, "asked()", 0);
    }

    @Says("What the latest lay(), at(), mean(), person(), tonight(), after(), clear()")
    static void promise38_theLatestOfSeven() {
        MoonLine x = ready();
        due.asks(x, "at(0, 2)", 51);
        due.asks(x, "lay(0, 2, 7)", 51);
        due.asks(x, "mean(0)", (31 + 41 + 7) / 3);
        due.asks(x, "person(0, 1)", 9);
        due.asks(x, "tonight()", 0, 4);
        due.asks(x, "after(5)", 0, 4);
        due.asks(x, "at(0, 0)", 31);
        Due.fill(x, 4, 0, 1);
        due.asks(x, "clear(4)", 3);
        due.asks(x, "person(0, 5)", NONE);
    }

    @Says("What the latest lay(), at(), mean(), person(), tonight(), after(), clear()")
    static void promise38_noOtherCall() {
        MoonLine x = ready();
        x.at(0, 2);
        for (String call : CALLS) {
            due.is(call + " is not refused", Due.call(x, call) > MoonLine.FINDING || call.startsWith("dig")
                || call.startsWith("fault") ? 1 : 0, 1);
            due.is(call + ", then asked()", x.asked(), 51);
        }
        for (String call : new String[] {"odds(0, 3, 5)", "mid(3, 5)", "lies(4)", "merge(3, 4)"}) {
            Due.call(x, call);
            due.is(call + ", then asked()", x.asked(), 51);
        }
    }

    @Says("that was not refused")
    static void promise38_notOfRefusedCalls() {
        MoonLine x = ready();
        x.at(0, 2);
        x.row(2, 0);
        due.refused(x, "lay(6, 0, 1)", BAD);
        due.finds(x, "lay(0, 3, 1)", Due.BEYOND);
        due.finds(x, "at(0, 3)", Due.BEYOND);
        due.finds(x, "mean(2)", Due.NOUGHT);
        due.refused(x, "person(3, 0)", BAD);
        due.finds(x, "after(0)", Due.UNLIKE);
        due.finds(x, "clear(0)", Due.UNLIKE);
        due.is(x, "asked()", 51);
    }

    @Says("(nor NONE, but as told)")
    static void promise38_whoWouldGiveUpIfNobodyGoes() {
        MoonLine x = Due.line("s90 s10");
        x.person(0, 1);
        due.asks(x, "tonight()", NONE, 2);
    }

    // ---- 39 upper, 40 lower

    @Says("0 before")
    static void promise39_before() {
        due.is(new MoonLine(), "upper()", 0);
        MoonLine x = new MoonLine();
        due.refused(x, "merge(21, 1)", BAD);
        due.is(x, "upper()", 0);
    }

    @Says("1 before")
    static void promise40_before() {
        due.is(new MoonLine(), "lower()", 1);
        MoonLine x = new MoonLine();
        due.refused(x, "mid(11, 1)", BAD);
        due.is(x, "lower()", 1);
    }

    @Says({"The upper number that was told last", "Chances, numbers of ways are told by upper(), lower()"})
    static void promise39_toldLast() {
        MoonLine x = ready();
        due.tells(x, "odds(0, 1, 5)", 5, 12);
        due.tells(x, "merge(3, 4)", 35, 1);
        due.tells(x, "mid(1, 7)", 7, 12);
        due.tells(x, "clear(4)", 1, 1);
        x.mid(1, 7);
        due.is(x, "lies(4)", 0);
        due.told("lies(4)", x, 2, 1);
    }

    @Says("Its lower number")
    static void promise40_ofTheSameCall() {
        MoonLine x = ready();
        x.odds(0, 1, 5);
        for (String call : new String[] {"merge(3, 4)", "clear(4)"}) {
            x.odds(0, 1, 5);
            due.is(x, "lower()", 12);
            due.is(x, call, 1);
            due.is(call + ", then lower()", x.lower(), 1);
        }
        x.odds(0, 1, 5);
        due.is(x, "lies(4)", 0);
        due.is(x, "lower()", 1);
    }

    @Says("that was told last")
    static void promise39_noOtherCall() {
        MoonLine x = ready();
        x.odds(0, 1, 5);
        for (String call : CALLS) {
            Due.call(x, call);
            due.told(call, x, 5, 12);
        }
    }

    @Says("that was told last")
    static void promise39_notOfRefusedCalls() {
        MoonLine x = ready();
        x.odds(0, 1, 5);
        due.refused(x, "odds(0, 1, 13)", BAD);
        due.refused(x, "mid(1, -1)", BAD);
        due.refused(x, "merge(-1, 0)", BAD);
        due.finds(x, "clear(0)", Due.UNLIKE);
        due.finds(x, "lies(0)", Due.SIZE);
        due.told("refused ones", x, 5, 12);
    }

    // ---- 41 count

    private static void counts(MoonLine x, int... want) {
        for (int what = 0; what <= 10; what++) {
            due.aside(x, "count(" + what + ")", want[what]);
        }
    }

    @Says({"0 PERSONS, 1 the NIGHT, 2 DEEDS, 3 PERSONS in the LINE, 4 that WENT, 5 that GAVE UP",
        "8 ROWS, 9 TEXTS that are there, 10 kept LINES"})
    static void promise41_counts() {
        MoonLine x = Due.line("w90 p90 s10 l90 r90 d90 s90");
        x.row(0, 1);
        x.row(5, 0);
        x.row(3, 2);
        x.tear(3);
        x.text(3, 0);
        x.keep(1);
        x.trade(0, 1);
        x.night(1);
        x.night(0);
        x.keep(0);
        counts(x, 7, 2, 3, 5, 1, 1, 2, 3, 2, 2, 2);
    }

    @Says("6 PUSHERS (RAMS, too), 7 SLEEPERS (DREAMERS, too)")
    static void promise41_ofAllPersonsInTheLineOrNot() {
        MoonLine x = Due.line("p90 r10 s10 d90");
        counts(x, 4, 0, 0, 4, 0, 0, 2, 2, 0, 1, 0);
        x.night(1);
        counts(x, 4, 1, 1, 1, 1, 2, 2, 2, 0, 1, 0);
        due.is(Due.line("w90 l90"), "count(6)", 0);
        due.is(Due.line("w90 l90"), "count(7)", 0);
    }

    @Says({"8 ROWS, 9 TEXTS that are there", "10 kept LINES"})
    static void promise41_allRowsTextsAndKeptLines() {
        MoonLine x = Due.line("w90");
        for (int k = 0; k <= 5; k++) {
            x.row(k, 0);
            x.text(k, 0);
            x.keep(k);
        }
        counts(x, 1, 0, 0, 1, 0, 0, 0, 0, 6, 4, 3);
    }

    @Says("BAD")
    static void promise41_noSuchNumberIsBad() {
        MoonLine x = Due.line("w90 w90");
        for (int what : Due.outside(0, 10)) {
            due.refused(x, "count(" + what + ")", BAD);
        }
    }

    // ---- 42 finding, 43 findings

    @Says("(0 before any)")
    static void promise42_beforeAny() {
        due.is(new MoonLine(), "finding()", 0);
        MoonLine x = Due.line("w90");
        x.at(9, 9);
        x.line(3);
        due.is(x, "finding()", Due.NOTHING);
        MoonLine y = Due.line("w90");
        due.refused(y, "row(0, 41)", BAD);
        due.refused(y, "trade(0, 0)", BAD);
        due.is(y, "finding()", 0);
    }

    @Says({"The latest FINDING", "FINDING -3 (finding() tells which)"})
    static void promise42_theLatest() {
        MoonLine x = Due.line("w90");
        due.finds(x, "at(0, 0)", 1);
        x.row(0, 0);
        due.finds(x, "at(0, 0)", 2);
        due.finds(x, "mark(0, 1)", 3);
        due.finds(x, "mean(0)", 4);
        due.finds(x, "row(0, -1)", 5);
        due.finds(x, "at(0, 0)", 2);
    }

    @Says("The latest FINDING")
    static void promise42_otherCallsLeaveIt() {
        MoonLine x = ready();
        x.row(0, -1);
        Due.fill(x, 0, 31, 41, 51);
        for (String call : CALLS) {
            Due.call(x, call);
            due.is(call + ", then finding()", x.finding(), Due.SIZE);
        }
        due.refused(x, "row(6, 0)", BAD);
        due.refused(x, "night(2)", BAD);
        x.on(2);
        due.is(x, "finding()", Due.NOTHING);
    }

    @Says("How often a FINDING (1 .. 5) was answered")
    static void promise43_howOften() {
        MoonLine x = Due.line("w90 w90");
        for (int f = 1; f <= 5; f++) {
            due.is(x, "findings(" + f + ")", 0);
        }
        x.row(0, 0);
        int[] want = {3, 1, 4, 2, 5};
        String[] calls = {"tear(1)", "at(0, 0)", "mark(0, 1)", "mean(0)", "row(0, -1)"};
        for (int f = 0; f < 5; f++) {
            for (int k = 0; k < want[f]; k++) {
                Due.call(x, calls[f]);
            }
        }
        x.at(9, 9);
        x.night(7);
        for (int f = 1; f <= 5; f++) {
            due.is(x, "findings(" + f + ")", want[f - 1]);
        }
    }

    /** A line with so many deeds, two of them kept, and something told; an object like it is refused much. */
    private static MoonLine busy(int deeds) {
        MoonLine x = Due.line("w92 w23 s14 p95 w96");
        Due.fill(x, 0, 31, 41, 51);
        x.trade(0, 3);
        x.keep(0);
        x.night(1);
        x.night(0);
        x.keep(2);
        for (int k = 3; k < deeds; k++) {
            x.trade(0, 4);
        }
        x.odds(4, 1, 5);
        x.at(0, 1);
        return x;
    }

    private static void unchanged(int deeds, String... refused) {
        MoonLine x = busy(deeds);
        MoonLine y = busy(deeds);
        for (String call : refused) {
            due.is(call + " is refused", Due.call(x, call) < 0 ? 1 : 0, 1);
        }
        due.is("asked()", x.asked(), y.asked());
        due.told("refused ones", x, 5, 12);
        due.is("digest()", x.digest(), y.digest());
        // DEEDS and kept LINES show when they are gone back to
        for (String call : new String[] {"undo(4)", "undo(2)", "undo(1)", "on(2)", "undo(1)", "on(0)", "undo(0)"}) {
            due.is(x, call, Due.call(y, call));
            due.is(call + ", then digest()", x.digest(), y.digest());
        }
    }

    @Says("What is refused changes nothing but finding(), findings()")
    static void promise43_whatIsRefusedChangesNothingElse() {
        unchanged(6, "night(2)", "trade(3, 4)", "trade(1, 4)", "trade(0, 0)", "undo(7)", "keep(3)", "on(1)", "on(3)",
            "line(1)", "line(4)", "price(0, 10)", "lay(0, 3, 9)", "lots(0, 1)", "lots(1, 0)", "copy(0, 0, 1, 0, 2)",
            "row(0, 41)", "row(0, -1)", "text(0, 61)", "text(0, -1)", "put(0, 60, 65)", "tear(1)", "mark(0, 2)",
            "push(5, 1, 0)", "odds(0, 11, 1)", "mid(0, 13)", "clear(0)", "lies(0)", "merge(21, 0)", "kinds(0, 0, 0)");
        unchanged(40, "night(0)", "night(1)", "trade(0, 4)", "lots(1, 1)", "undo(41)", "keep(-1)", "on(1)");
    }

    @Says({"BAD", "(1 .. 5)"})
    static void promise43_noSuchFindingIsBad() {
        MoonLine x = Due.line("w90 w90");
        for (int f : Due.outside(1, 5)) {
            due.refused(x, "findings(" + f + ")", BAD);
        }
    }

    // ---- 44 digest

    /** The digest as the document tells it, from what the other calls tell. */
    private static long digestOf(List<Integer> kept, MoonLine x, int[][] rows, int[][] texts) {
        List<Integer> all = new ArrayList<>();
        for (int what = 0; what <= 10; what++) {
            all.add(x.count(what));
        }
        for (int i = 0; i < x.count(0); i++) {
            for (int what = 0; what <= 6; what++) {
                all.add(Due.asked(x, i, what));
            }
        }
        all.addAll(kept);
        addAll(all, rows);
        addAll(all, texts);
        long h = 17;
        for (int v : all) {
            h = 31 * h + v;
        }
        return h;
    }

    private static void addAll(List<Integer> all, int[][] rows) {
        for (int[] row : rows) {
            all.add(row == null ? -1 : row.length);
            for (int k = 0; row != null && k < row.length; k++) {
                all.add(row[k]);
            }
        }
    }

    @Says({"(-1: missing)", "h = 17; then h = 31 h + v for each v"})
    static void promise44_ofANewObject() {
        MoonLine x = new MoonLine();
        due.is("digest()", x.digest(), digestOf(List.of(-1, -1, -1), x, new int[6][], new int[4][]));
        long h = 17;
        for (int k = 0; k < 11 + 13; k++) {
            h = 31 * h - (k < 11 ? 0 : 1);
        }
        due.is(x, "digest()", h);
    }

    @Says({"count() 0 to 10; of each PERSON person() 0 to 6; of each kept LINE how many DEEDS (-1: missing)",
        "of each ROW its size (-1: missing) and places, of each TEXT likewise"})
    static void promise44_ofAllThatIsThere() {
        MoonLine x = Due.line("w93 s12 r90");
        Due.fill(x, 1, 7, -8, Due.MIN, Due.MAX);
        x.row(4, 0);
        x.text(2, 2);
        x.put(2, 1, 200);
        x.text(3, 0);
        x.trade(0, 1);
        x.keep(1);
        x.night(1);
        x.price(2, 5);
        int[] first = "w93 s12 r90".chars().toArray();
        int[][] rows = {null, {7, -8, Due.MIN, Due.MAX}, null, null, {}, null};
        int[][] texts = {first, null, {32, -56}, {}};
        due.is("digest()", x.digest(), digestOf(List.of(-1, 1, -1), x, rows, texts));
        x.keep(2);
        due.is("digest()", x.digest(), digestOf(List.of(-1, 1, 2), x, rows, texts));
    }

    @Says("h = 31 h + v")
    static void promise44_wrapsAround() {
        MoonLine x = new MoonLine();
        int[][] rows = new int[6][40];
        for (int r = 0; r <= 5; r++) {
            x.row(r, 40);
            for (int k = 0; k < 40; k++) {
                rows[r][k] = k % 2 == 0 ? Due.MAX - k : Due.MIN + k;
                x.lay(r, k, rows[r][k]);
            }
        }
        due.is("digest()", x.digest(), digestOf(List.of(-1, -1, -1), x, rows, new int[4][]));
    }

    @Says("of each PERSON person() 0 to 6")
    static void promise44_changesNothing() {
        MoonLine x = ready();
        x.at(0, 2);
        long first = x.digest();
        due.is(x, "digest()", first);
        due.is(x, "asked()", 51);
    }

    /** What no other call tells apart, digest() does not either: what was told, which findings there were. */
    @Says("count() 0 to 10")
    static void promise44_notOfWhatWasTold() {
        MoonLine x = ready();
        long first = x.digest();
        x.at(0, 2);
        x.odds(0, 1, 5);
        x.at(1, 0);
        due.is(x, "digest()", first);
    }
}
