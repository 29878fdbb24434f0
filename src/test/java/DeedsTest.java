/** Promises 15 to 19: night, trade, undo, keep, on. */
public final class DeedsTest {
    private static final int NONE = MoonLine.NONE, BAD = MoonLine.BAD, STATE = MoonLine.STATE, FULL = MoonLine.FULL;
    private static final Due due = new Due();

    public static void main(String[] args) {
        whoGoes();
        lovers();
        pushes();
        givesUp();
        nightRefused();
        trades();
        undo();
        keepAndOn();
        due.end("DeedsTest");
    }

    private static void whoGoes() {
        MoonLine x = Due.line("s90 d90 w90");
        due.is("night(0)", x.night(0), NONE);
        due.is("all stay", x.count(3), 3);
        due.is("night(1): the DREAMER sleeps in NIGHT 1", x.night(1), 2);
        due.is("night(1): all sleep in NIGHT 2", x.night(1), NONE);
        due.is("night(1): the DREAMER is awake in NIGHT 3", x.night(1), 1);
        due.is("the NIGHT in which it WENT", Due.asked(x, 1, 5), 3);
        due.is("night(1): the SLEEPER never goes", x.night(1), NONE);
        due.is("the NIGHT", x.count(1), 5);
        due.is("DEEDS", x.count(2), 5);
    }

    private static void lovers() {
        MoonLine x = Due.line("l90 s90 l90 w90");
        due.is("the next one who is awake GOES, be it a LOVER", x.night(1), 2);
        due.is("then the WAITER", x.night(1), 3);
        due.is("then nobody awake is behind the LOVER", x.night(1), 0);
        due.is("then nobody", x.night(1), NONE);
        x = Due.line("s90 l90 d90");
        due.is("a LOVER behind a SLEEPER, a DREAMER awake", x.night(1), 2);
        x = Due.line("s90 l90 d90");
        x.night(0);
        due.is("a LOVER behind a SLEEPER, a DREAMER asleep", x.night(1), 1);
    }

    private static void pushes() {
        placesAre("s90 p90", 1, 0);
        placesAre("s90 w90 p90", 0, 1, 2);
        placesAre("s90 s90 p90", 0, 2, 1);
        placesAre("s90 s90 s90 r90", 0, 3, 1, 2);
        placesAre("s90 w90 s90 r90", 0, 1, 3, 2);
        placesAre("w90 r90 s90", 0, 1, 2);
        // each in its turn: the second one finds the sleeper just ahead again
        placesAre("s90 p90 p90", 1, 2, 0);
        placesAre("s90 p90 r90 s90 r90", 1, 2, 4, 0, 3);
        placesAre("s90 s90 r90 r90", 2, 3, 0, 1);
        // in NIGHT 0 a DREAMER is awake
        placesAre("d90 p90", 0, 1);
        MoonLine x = Due.line("d90 p90");
        x.night(0);
        x.night(0);
        due.is("in NIGHT 1 a DREAMER is passed", Due.asked(x, 1, 3), 0);
        x = Due.line("d90 s90 r90 w90");
        x.night(0);
        x.night(1);
        due.is("who pushed ahead GOES", Due.asked(x, 2, 5), 1);
        due.is("the others as they stood", Due.asked(x, 0, 3) * 10 + Due.asked(x, 1, 3), 1);
    }

    private static void placesAre(String signs, int... order) {
        MoonLine x = Due.line(signs);
        x.night(0);
        for (int place = 0; place < order.length; place++) {
            due.is("place of " + order[place] + " in '" + signs + "'", Due.asked(x, order[place], 3), place);
        }
    }

    private static void givesUp() {
        MoonLine x = Due.line("w10 w10 w20 w90");
        due.is("night(1)", x.night(1), 0);
        due.is("who WENT did not GIVE UP", Due.asked(x, 0, 6), 0);
        due.is("who stood GAVE UP", Due.asked(x, 1, 6), 1);
        due.is("night(0)", x.night(0), NONE);
        due.is("GAVE UP in its second NIGHT", Due.asked(x, 2, 6), 1);
        due.is("it waited", Due.asked(x, 2, 4), 2);
        due.is("the place of the last one", Due.asked(x, 3, 3), 0);
        x = Due.line("w10 w10 w10");
        x.night(0);
        due.is("all at once", x.count(5), 3);
        due.is("a NIGHT with nobody in the LINE", x.night(1), NONE);
        due.is("waited no more", Due.asked(x, 0, 4), 1);
    }

    private static void nightRefused() {
        MoonLine x = new MoonLine();
        due.is("night(2) without PERSONS", x.night(2), BAD);
        due.is("night(-1) without PERSONS", x.night(-1), BAD);
        due.is("night(0) without PERSONS", x.night(0), STATE);
        x = Due.line("w90 w90");
        for (int k = 0; k < 40; k++) {
            due.is("DEED " + k, x.night(0), NONE);
        }
        due.is("night(1) in the 41st", x.night(1), FULL);
        due.is("night(2) in the 41st", x.night(2), BAD);
        due.is("DEEDS", x.count(2), 40);
        due.is("the NIGHT", x.count(1), 40);
    }

    private static void trades() {
        MoonLine x = Due.line("w90 w90 w90 w10");
        due.is("trade(0, 2)", x.trade(0, 2), 1);
        due.is("place of 0", Due.asked(x, 0, 3), 2);
        due.is("place of 1", Due.asked(x, 1, 3), 1);
        due.is("place of 2", Due.asked(x, 2, 3), 0);
        due.is("a TRADE is a DEED", x.count(2), 1);
        due.is("and no NIGHT", x.count(1), 0);
        due.is("trade(1, 1)", x.trade(1, 1), BAD);
        due.is("trade(4, 1)", x.trade(4, 1), BAD);
        due.is("trade(0, -1)", x.trade(0, -1), BAD);
        due.is("night(1)", x.night(1), 2);
        due.is("trade with one that WENT", x.trade(2, 0), STATE);
        due.is("trade with one that GAVE UP", x.trade(0, 3), STATE);
        due.is("both out of the LINE", x.trade(2, 3), STATE);
        for (int k = 2; k < 40; k++) {
            due.is("DEED " + k, x.trade(0, 1), 1);
        }
        due.is("the 41st", x.trade(0, 1), FULL);
        due.is("STATE ahead of FULL", x.trade(0, 2), STATE);
        due.is("BAD ahead of all", x.trade(2, 2), BAD);
    }

    private static void undo() {
        MoonLine x = Due.line("w30 w90 s90 p90");
        due.is("undo(0) of none", x.undo(0), 0);
        x.trade(0, 1);
        x.night(1);
        long behindTwo = x.digest();
        x.night(0);
        x.trade(3, 2);
        x.night(0);
        x.night(1);
        due.is("0 GAVE UP", Due.asked(x, 0, 6), 1);
        due.is("undo(7)", x.undo(7), BAD);
        due.is("undo(-1)", x.undo(-1), BAD);
        due.is("undo(6)", x.undo(6), 0);
        due.is("undo(2)", x.undo(2), 4);
        due.is("as it was", x.digest() == behindTwo ? 1 : 0, 1);
        due.is("0 stands", Due.asked(x, 0, 3), 0);
        due.is("1 WENT", Due.asked(x, 1, 5), 0);
        x.price(1, 5);
        due.is("undo(0)", x.undo(0), 2);
        due.is("PRICES stay", Due.asked(x, 1, 2), 5);
        due.is("the NIGHT", x.count(1), 0);
        due.is("all stand", x.count(3), 4);
        due.is("as they stood", Due.asked(x, 0, 3), 0);
        due.is("a NIGHT from there", x.night(1), 0);
        due.is("undo(0) of a new object", new MoonLine().undo(0), 0);
        due.is("undo(1) of a new object", new MoonLine().undo(1), BAD);
    }

    private static void keepAndOn() {
        MoonLine x = new MoonLine();
        due.is("keep(0) without PERSONS", x.keep(0), STATE);
        due.is("keep(3) without PERSONS", x.keep(3), BAD);
        x = Due.line("w90 w91 w92");
        due.is("keep(3)", x.keep(3), BAD);
        due.is("keep(-1)", x.keep(-1), BAD);
        due.is("on(3)", x.on(3), BAD);
        due.is("on(-1)", x.on(-1), BAD);
        due.finds("on(0)", x, x.on(0), 1);
        due.is("keep(1)", x.keep(1), 0);
        x.night(1);
        x.trade(1, 2);
        due.is("keep(0)", x.keep(0), 2);
        due.is("kept LINES", x.count(10), 2);
        x.price(2, 7);
        x.night(1);
        due.is("on(1)", x.on(1), 0);
        due.is("all stand", x.count(3), 3);
        due.is("PRICES are not kept", Due.asked(x, 2, 2), 7);
        due.is("on(0)", x.on(0), 2);
        due.is("the NIGHT", x.count(1), 1);
        due.is("as it was", Due.asked(x, 2, 3), 0);
        due.is("DEEDS are kept: undo(1)", x.undo(1), 1);
        due.is("a TRADE undone", Due.asked(x, 2, 3), 1);
        due.is("what is kept stays: on(0)", x.on(0), 2);
        x.undo(0);
        x.night(0);
        x.night(0);
        due.is("behind other DEEDS: on(0)", x.on(0), 2);
        due.is("who WENT when it was kept", Due.asked(x, 0, 5), 0);
        due.is("the NIGHT when it was kept", x.count(1), 1);
        due.is("keep(0) anew", x.keep(0), 2);
        x.undo(0);
        due.is("keep(0) over it", x.keep(0), 0);
        x.night(0);
        due.is("on(0) of the new one", x.on(0), 0);
    }
}
