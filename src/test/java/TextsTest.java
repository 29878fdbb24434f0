/** Promises 8 to 14: text, put, fault, line, person, mark, price. */
public final class TextsTest {
    private static final int NONE = MoonLine.NONE, BAD = MoonLine.BAD;
    private static final Due due = new Due();

    public static void main(String[] args) {
        textAndPut();
        faults();
        lines();
        persons();
        marks();
        marksOfOthers();
        prices();
        due.end("TextsTest");
    }

    private static void textAndPut() {
        MoonLine x = new MoonLine();
        due.is("text(0, 0)", x.text(0, 0), 0);
        due.is("text(3, 60)", x.text(3, 60), 60);
        due.is("text(4, 1)", x.text(4, 1), BAD);
        due.is("text(-1, -1)", x.text(-1, -1), BAD);
        due.is("text(0, 61)", x.text(0, 61), BAD);
        due.finds("text(0, -1)", x, x.text(0, -1), 5);
        due.is("count(9)", x.count(9), 2);
        due.is("put(3, 59, 127)", x.put(3, 59, 127), 1032);
        due.is("put(3, 59, 128)", x.put(3, 59, 128), 1127);
        due.is("put(3, 59, 511)", x.put(3, 59, 511), 872);
        due.is("put(3, 59, -256)", x.put(3, 59, -256), 999);
        due.is("put(3, 59, 0)", x.put(3, 59, 0), 1000);
        due.is("put(4, 0, 1)", x.put(4, 0, 1), BAD);
        due.is("put(-1, 0, 1)", x.put(-1, 0, 1), BAD);
        due.finds("put(1, 99, 1)", x, x.put(1, 99, 1), 1);
        due.finds("put(3, 60, 1)", x, x.put(3, 60, 1), 2);
        due.finds("put(0, 0, 1)", x, x.put(0, 0, 1), 2);
        due.finds("put(3, -1, 1)", x, x.put(3, -1, 1), 2);
        x.put(3, 0, 65);
        due.is("text(3, 2) anew", x.text(3, 2), 2);
        due.is("put(3, 0, 1)", x.put(3, 0, 1), 1032);
    }

    private static void faults() {
        faultIs("w10", NONE);
        faultIs("  w10  p99s55 ", NONE);
        faultIs("w10p20s30l40r50d60w79", NONE);
        faultIs("", 0);
        faultIs("   ", 3);
        faultIs("w", 1);
        faultIs("w1", 2);
        faultIs("w10 p", 5);
        faultIs("w00", 1);
        faultIs("w:0", 1);
        faultIs("w1/", 2);
        faultIs("w1:", 2);
        faultIs("w 10", 1);
        faultIs("w1 0", 2);
        faultIs("x10", 0);
        faultIs("W10", 0);
        faultIs(" w10,", 4);
        faultIs("w10 5", 4);
        faultIs("w10\t", 3);
        faultIs("w10" + (char) 247, 3);
        faultIs("w10p20s30l40r50d60w79w", 21);
        faultIs("w10p20s30l40r50d60w79  x10", 23);
        faultIs("w10p20s30l40r50d60w79 w00", 22);
        MoonLine x = new MoonLine();
        due.is("fault(4)", x.fault(4), BAD);
        due.is("fault(-1)", x.fault(-1), BAD);
        due.finds("fault(0)", x, x.fault(0), 1);
    }

    private static void faultIs(String signs, int place) {
        MoonLine x = new MoonLine();
        Due.write(x, 2, signs);
        due.is("fault of '" + signs + "'", x.fault(2), place);
        int persons = signs.replaceAll("[^wpslrd]", "").length();
        due.is("line of '" + signs + "'", x.line(2), place == NONE ? persons : MoonLine.STATE);
    }

    private static void lines() {
        MoonLine x = new MoonLine();
        due.is("line(4)", x.line(4), BAD);
        due.is("line(-1)", x.line(-1), BAD);
        due.finds("line(0)", x, x.line(0), 1);
        Due.write(x, 0, "w92 p91");
        Due.write(x, 1, "s33");
        Due.write(x, 2, "s3");
        due.is("line(0)", x.line(0), 2);
        x.price(0, 7);
        x.night(1);
        x.keep(0);
        x.keep(1);
        x.keep(2);
        due.is("line(2)", x.line(2), MoonLine.STATE);
        due.is("a refused line: count(0)", x.count(0), 2);
        due.is("a refused line: count(2)", x.count(2), 1);
        due.is("a refused line: kind", Due.asked(x, 1, 0), 1);
        due.is("line(0) anew", x.line(0), 2);
        due.is("the NIGHT", x.count(1), 0);
        due.is("DEEDS", x.count(2), 0);
        due.is("in the LINE", x.count(3), 2);
        due.is("kept LINES", x.count(10), 0);
        due.finds("on(0)", x, x.on(0), 1);
        due.finds("on(1)", x, x.on(1), 1);
        due.finds("on(2)", x, x.on(2), 1);
        due.is("the PRICE anew", Due.asked(x, 0, 2), 2);
        due.is("line(1)", x.line(1), 1);
        due.is("person(1, 0)", x.person(1, 0), BAD);
    }

    private static void persons() {
        MoonLine x = Due.line("w92 l31 s13 w50");
        String told = "";
        for (int i = 0; i < 4; i++) {
            for (int what = 0; what < 7; what++) {
                due.is("person(" + i + ", " + what + ")", x.person(i, what), 1);
                told += x.asked() + " ";
            }
        }
        due.is("all told", told.equals("0 9 2 0 0 -9 0 3 3 1 1 0 -9 0 2 1 3 2 0 -9 0 0 5 0 3 0 -9 0 ") ? 1 : 0, 1);
        x.night(1);
        due.is("who went: place", Due.asked(x, 0, 3), NONE);
        due.is("who went: waited", Due.asked(x, 0, 4), 0);
        due.is("who went: when", Due.asked(x, 0, 5), 0);
        due.is("who went: gave up", Due.asked(x, 0, 6), 0);
        due.is("who gave up: place", Due.asked(x, 2, 3), NONE);
        due.is("who gave up: waited", Due.asked(x, 2, 4), 1);
        due.is("who gave up: when it went", Due.asked(x, 2, 5), NONE);
        due.is("who gave up", Due.asked(x, 2, 6), 1);
        due.is("who stays: place", Due.asked(x, 3, 3), 1);
        due.is("who stays: waited", Due.asked(x, 3, 4), 1);
        due.is("person(4, 0)", x.person(4, 0), BAD);
        due.is("person(-1, 0)", x.person(-1, 0), BAD);
        due.is("person(0, 7)", x.person(0, 7), BAD);
        due.is("person(0, -1)", x.person(0, -1), BAD);
        due.is("asked() of refused ones", x.asked(), 1);
    }

    private static void marks() {
        MoonLine x = Due.line("d90 s90 r90 l90 d90 p90");
        due.is("a PUSHER in NIGHT 0", x.mark(5, 1), 1);
        due.is("a RAM as a PUSHER in NIGHT 0", x.mark(2, 1), 1);
        due.is("a RAM in NIGHT 0", x.mark(2, 4), 1);
        due.is("a SLEEPER in NIGHT 0", x.mark(1, 2), 4);
        due.is("a DREAMER as a SLEEPER in NIGHT 0", x.mark(4, 2), 1);
        due.is("a DREAMER in NIGHT 0", x.mark(0, 5), 0);
        due.is("a LOVER in NIGHT 0", x.mark(3, 3), 4);
        // in NIGHT 0 the RAM goes ahead of the SLEEPER: d r s l d p
        x.night(0);
        due.is("a DREAMER in NIGHT 1", x.mark(0, 5), 2);
        due.is("a DREAMER as a SLEEPER in NIGHT 1", x.mark(0, 2), 3);
        due.is("a PUSHER in NIGHT 1", x.mark(5, 1), 3);
        due.is("a RAM in NIGHT 1", x.mark(2, 4), 1);
        due.is("a LOVER in NIGHT 1", x.mark(3, 3), 5);
        // in NIGHT 1 the RAM and the PUSHER go ahead: r d s l p d
        x.night(0);
        due.is("a DREAMER in NIGHT 2", x.mark(4, 5), 1);
        due.is("a RAM at the first place", x.mark(2, 4), 0);
        due.is("a RAM at the first place as a PUSHER", x.mark(2, 1), 0);
        x.trade(2, 3);
        due.is("a RAM behind two ASLEEP", x.mark(2, 4), 2);
        due.is("a RAM between ASLEEP ones", Due.line("w90 s90 r90 w90 s90").mark(2, 4), 1);
        x.trade(3, 4);
        due.is("a LOVER that is last", x.mark(3, 3), NONE);
        due.is("a SLEEPER ahead of all that are awake", x.mark(1, 2), 3);
    }

    private static void marksOfOthers() {
        MoonLine x = Due.line("w90 p90 s90 l90 r90 d90");
        int[] isOf = {0, 1 << 1, 1 << 2, 1 << 3, 1 << 1 | 1 << 4, 1 << 2 | 1 << 5};
        for (int i = 0; i < 6; i++) {
            for (int kind = 1; kind <= 5; kind++) {
                int answer = x.mark(i, kind);
                boolean is = (isOf[i] >> kind & 1) == 1;
                due.is("mark(" + i + ", " + kind + ") is told", answer != MoonLine.FINDING ? 1 : 0, is ? 1 : 0);
            }
        }
        due.is("finding()", x.finding(), 3);
        due.is("mark(0, 0)", x.mark(0, 0), BAD);
        due.is("mark(0, 6)", x.mark(0, 6), BAD);
        due.is("mark(6, 1)", x.mark(6, 1), BAD);
        due.is("mark(-1, 1)", x.mark(-1, 1), BAD);
        x.trade(0, 1);
        x.night(1);
        due.is("a PUSHER that WENT", x.mark(1, 1), NONE);
        due.finds("another KIND of one that WENT", x, x.mark(1, 4), 3);
    }

    private static void prices() {
        MoonLine x = Due.line("w92 p91");
        due.is("price(0, 9)", x.price(0, 9), 2);
        due.is("price(0, 0)", x.price(0, 0), 9);
        due.is("the other's PRICE", Due.asked(x, 1, 2), 1);
        due.is("price(0, 10)", x.price(0, 10), BAD);
        due.is("price(0, -1)", x.price(0, -1), BAD);
        due.is("price(2, 1)", x.price(2, 1), BAD);
        due.is("price(-1, 1)", x.price(-1, 1), BAD);
        due.is("the PRICE", Due.asked(x, 0, 2), 0);
        x.night(1);
        due.is("price() of one that WENT", x.price(0, 3), 0);
    }
}
