/** Promises 1 to 7: a new object, row, lay, at, tear, copy, mean. */
public final class RowsTest {
    private static final int MIN = Integer.MIN_VALUE, MAX = Integer.MAX_VALUE;
    private static final Due due = new Due();

    public static void main(String[] args) {
        newObject();
        rows();
        layAndAt();
        tear();
        copy();
        copyRefused();
        mean();
        due.end("RowsTest");
    }

    private static void newObject() {
        MoonLine x = new MoonLine();
        for (int what = 0; what <= 10; what++) {
            due.is("new: count(" + what + ")", x.count(what), 0);
        }
        for (int r = 0; r < 6; r++) {
            due.finds("new: at(" + r + ", 0)", x, x.at(r, 0), 1);
        }
        for (int t = 0; t < 4; t++) {
            due.finds("new: fault(" + t + ")", x, x.fault(t), 1);
        }
        for (int k = 0; k < 3; k++) {
            due.finds("new: on(" + k + ")", x, x.on(k), 1);
        }
        due.is("new: person(0, 0)", x.person(0, 0), MoonLine.BAD);
        due.is("new: tonight()", x.tonight(), MoonLine.NONE);
        due.is("new: night(1)", x.night(1), MoonLine.STATE);
    }

    private static void rows() {
        MoonLine x = new MoonLine();
        due.is("row(0, 0)", x.row(0, 0), 0);
        due.is("row(5, 40)", x.row(5, 40), 40);
        due.is("count(8)", x.count(8), 2);
        due.is("row(6, 1)", x.row(6, 1), MoonLine.BAD);
        due.is("row(-1, 1)", x.row(-1, 1), MoonLine.BAD);
        due.is("row(0, 41)", x.row(0, 41), MoonLine.BAD);
        due.is("row(0, MAX)", x.row(0, MAX), MoonLine.BAD);
        due.is("row(6, -1)", x.row(6, -1), MoonLine.BAD);
        due.is("finding()", x.finding(), 0);
        due.finds("row(5, -1)", x, x.row(5, -1), 5);
        due.finds("row(5, MIN)", x, x.row(5, MIN), 5);
        due.is("at(5, 39) stays", x.at(5, 39), 1);
        x.lay(5, 2, 7);
        due.is("row(5, 3) anew", x.row(5, 3), 3);
        due.is("at(5, 2)", x.at(5, 2), 1);
        due.is("asked()", x.asked(), 0);
        due.finds("at(5, 3)", x, x.at(5, 3), 2);
    }

    private static void layAndAt() {
        MoonLine x = new MoonLine();
        x.row(1, 3);
        due.is("lay(1, 2, MIN)", x.lay(1, 2, MIN), 1);
        due.is("asked() of lay", x.asked(), 0);
        due.is("lay(1, 2, 5)", x.lay(1, 2, 5), 1);
        due.is("asked() of lay once more", x.asked(), MIN);
        due.is("at(1, 2)", x.at(1, 2), 1);
        due.is("asked() of at", x.asked(), 5);
        due.is("lay(6, 0, 1)", x.lay(6, 0, 1), MoonLine.BAD);
        due.is("at(-1, 0)", x.at(-1, 0), MoonLine.BAD);
        due.is("at(MAX, 0)", x.at(MAX, 0), MoonLine.BAD);
        due.finds("lay(0, 9, 1)", x, x.lay(0, 9, 1), 1);
        due.finds("at(0, 9)", x, x.at(0, 9), 1);
        due.finds("lay(1, 3, 1)", x, x.lay(1, 3, 1), 2);
        due.finds("lay(1, -1, 1)", x, x.lay(1, -1, 1), 2);
        due.finds("at(1, 3)", x, x.at(1, 3), 2);
        due.finds("at(1, MIN)", x, x.at(1, MIN), 2);
        due.is("asked() of refused ones", x.asked(), 5);
    }

    private static void tear() {
        MoonLine x = new MoonLine();
        x.row(2, 2);
        due.is("tear(2)", x.tear(2), 1);
        due.finds("tear(2) again", x, x.tear(2), 1);
        due.finds("at(2, 0)", x, x.at(2, 0), 1);
        due.is("tear(6)", x.tear(6), MoonLine.BAD);
        due.is("tear(-1)", x.tear(-1), MoonLine.BAD);
        due.is("count(8)", x.count(8), 0);
    }

    private static void copy() {
        MoonLine x = new MoonLine();
        Due.fill(x, 0, 1, 2, 3, 4, 5);
        due.is("copy(0, 0, 0, 1, 4)", x.copy(0, 0, 0, 1, 4), 1);
        rowIs(x, 0, 1, 1, 2, 3, 4);
        due.is("copy(0, 1, 0, 0, 4)", x.copy(0, 1, 0, 0, 4), 1);
        rowIs(x, 0, 1, 2, 3, 4, 4);
        Due.fill(x, 1, 9, 8, 7);
        due.is("copy(1, 1, 0, 3, 2)", x.copy(1, 1, 0, 3, 2), 1);
        rowIs(x, 0, 1, 2, 3, 8, 7);
        due.is("copy(1, 3, 0, 5, 0)", x.copy(1, 3, 0, 5, 0), 1);
        rowIs(x, 0, 1, 2, 3, 8, 7);
        rowIs(x, 1, 9, 8, 7);
    }

    private static void copyRefused() {
        MoonLine x = new MoonLine();
        Due.fill(x, 0, 1, 2, 3);
        Due.fill(x, 1, 4, 5);
        due.is("copy(6, 0, 1, 0, 1)", x.copy(6, 0, 1, 0, 1), MoonLine.BAD);
        due.is("copy(0, 0, -1, 0, -1)", x.copy(0, 0, -1, 0, -1), MoonLine.BAD);
        due.finds("copy(3, 0, 1, 0, -1)", x, x.copy(3, 0, 1, 0, -1), 5);
        due.finds("copy(3, 9, 1, 0, 1)", x, x.copy(3, 9, 1, 0, 1), 1);
        due.finds("copy(0, 9, 3, 0, 1)", x, x.copy(0, 9, 3, 0, 1), 1);
        due.finds("copy(0, 2, 1, 0, 2)", x, x.copy(0, 2, 1, 0, 2), 2);
        due.finds("copy(0, 0, 1, 0, 3)", x, x.copy(0, 0, 1, 0, 3), 2);
        due.finds("copy(0, -1, 1, 0, 1)", x, x.copy(0, -1, 1, 0, 1), 2);
        due.finds("copy(0, 0, 1, -1, 0)", x, x.copy(0, 0, 1, -1, 0), 2);
        due.finds("copy(0, 4, 1, 0, 0)", x, x.copy(0, 4, 1, 0, 0), 2);
        due.finds("copy(0, MAX, 1, 0, MAX)", x, x.copy(0, MAX, 1, 0, MAX), 2);
        due.finds("copy(0, MIN, 1, MIN, MAX)", x, x.copy(0, MIN, 1, MIN, MAX), 2);
        rowIs(x, 0, 1, 2, 3);
        rowIs(x, 1, 4, 5);
    }

    private static void mean() {
        MoonLine x = new MoonLine();
        Due.fill(x, 0, 7, 8, 9, 11);
        due.is("mean(0)", x.mean(0), 1);
        due.is("asked()", x.asked(), 8);
        Due.fill(x, 0, -7, -8);
        x.mean(0);
        due.is("asked(), cut below 0", x.asked(), -7);
        Due.fill(x, 0, MAX, MAX, MAX);
        x.mean(0);
        due.is("asked() of large ones", x.asked(), MAX);
        Due.fill(x, 0, MIN, MIN);
        x.mean(0);
        due.is("asked() of small ones", x.asked(), MIN);
        x.row(0, 0);
        due.finds("mean(0) of none", x, x.mean(0), 4);
        due.finds("mean(1)", x, x.mean(1), 1);
        due.is("mean(6)", x.mean(6), MoonLine.BAD);
        due.is("mean(-1)", x.mean(-1), MoonLine.BAD);
        due.is("asked() of refused ones", x.asked(), MIN);
    }

    private static void rowIs(MoonLine x, int r, int... places) {
        for (int k = 0; k < places.length; k++) {
            due.is("at(" + r + ", " + k + ")", x.at(r, k), 1);
            due.is("asked()", x.asked(), places[k]);
        }
    }
}
