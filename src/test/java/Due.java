/** What the tests share: answers that are due, texts, lines and rows made in short. */
final class Due {
    private int wrong = 0;
    private int asked = 0;

    void is(String call, long got, long want) {
        asked++;
        if (got != want) {
            wrong++;
            System.out.println(call + " answered " + got + ", due is " + want);
        }
    }

    /** A call that is refused by a finding, and which one. */
    void finds(String call, MoonLine x, long got, int which) {
        is(call, got, MoonLine.FINDING);
        is(call + ", then finding()", x.finding(), which);
    }

    /** Chances and numbers of ways that were told. */
    void tells(String call, MoonLine x, long upper, long lower) {
        is(call + ", then upper()", x.upper(), upper);
        is(call + ", then lower()", x.lower(), lower);
    }

    void end(String name) {
        System.out.println(name + ": " + asked + " answers, " + wrong + " not as due");
        if (wrong != 0) {
            System.exit(1);
        }
    }

    static void write(MoonLine x, int t, String signs) {
        x.text(t, signs.length());
        for (int k = 0; k < signs.length(); k++) {
            x.put(t, k, signs.charAt(k));
        }
    }

    static MoonLine line(String signs) {
        MoonLine x = new MoonLine();
        write(x, 0, signs);
        x.line(0);
        return x;
    }

    static void fill(MoonLine x, int r, int... places) {
        x.row(r, places.length);
        for (int k = 0; k < places.length; k++) {
            x.lay(r, k, places[k]);
        }
    }

    static int asked(MoonLine x, int i, int what) {
        x.person(i, what);
        return x.asked();
    }
}
