import java.lang.reflect.InvocationTargetException;
import java.lang.reflect.Method;
import java.util.ArrayList;
import java.util.Arrays;
import java.util.Comparator;
import java.util.List;
import java.util.TreeMap;

/** What the tests share: calls told as texts, answers that are due, lines and rows made in short. */
final class Due {
    static final int MIN = Integer.MIN_VALUE, MAX = Integer.MAX_VALUE;
    static final int NOTHING = 1, BEYOND = 2, UNLIKE = 3, NOUGHT = 4, SIZE = 5;
    private static final int SEEN_FINDING = 4;
    private static final TreeMap<String, Method> CALLS = new TreeMap<>();

    static {
        for (Method m : MoonLine.class.getMethods()) {
            CALLS.put(m.getName(), m);
        }
    }

    private int wrong = 0;
    private int answers = 0;
    private String test = "";

    /** Runs the tests of a class: its methods that are named by a promise's number. */
    void run(Class<?> tests) {
        List<Method> all = testsOf(tests);
        for (Method m : all) {
            test = m.getName() + ": ";
            runOne(m);
        }
        test = "";
        is("tests of " + tests.getName() + " are there", all.isEmpty() ? 0 : 1, 1);
        end(tests.getName() + ": " + all.size() + " tests");
    }

    private void runOne(Method m) {
        int before = answers;
        try {
            m.invoke(null);
        } catch (InvocationTargetException e) {
            is("threw " + e.getCause(), 1, 0);
        } catch (IllegalAccessException e) {
            is("can't be run: " + e, 1, 0);
        }
        is("asks something", answers > before ? 1 : 0, 1);
    }

    static List<Method> testsOf(Class<?> tests) {
        List<Method> all = new ArrayList<>();
        for (Method m : tests.getDeclaredMethods()) {
            if (m.getName().matches("promise\\d\\d_\\w+")) {
                all.add(m);
            }
        }
        all.sort(Comparator.comparing(Method::getName));
        return all;
    }

    void is(String what, long got, long want) {
        answers++;
        if (got != want) {
            wrong++;
            System.out.println(test + what + " answered " + got + ", due is " + want);
        }
    }

    void end(String name) {
        System.out.println(name + ", " + answers + " answers, " + wrong + " not as due");
        if (wrong != 0) {
            System.exit(1);
        }
    }

    /** Makes a call that is told as a text, such as "lay(0, 3, MIN)". */
    static long call(MoonLine x, String call) {
        int open = call.indexOf('(');
        Method m = open < 0 ? null : CALLS.get(call.substring(0, open));
        if (m == null || !call.endsWith(")")) {
            throw new IllegalArgumentException("no call: " + call);
        }
        String inside = call.substring(open + 1, call.length() - 1).trim();
        String[] words = inside.isEmpty() ? new String[0] : inside.split(", *");
        Object[] numbers = new Object[words.length];
        for (int k = 0; k < words.length; k++) {
            numbers[k] = number(words[k]);
        }
        try {
            return ((Number) m.invoke(x, numbers)).longValue();
        } catch (ReflectiveOperationException e) {
            throw new IllegalStateException(call, e);
        }
    }

    private static int number(String word) {
        switch (word) {
            case "MIN":
                return MIN;
            case "MAX":
                return MAX;
            case "NONE":
                return MoonLine.NONE;
            default:
                return Integer.parseInt(word);
        }
    }

    void is(MoonLine x, String call, long want) {
        is(call, call(x, call), want);
    }

    /** A call that answers 1, and what it tells by asked(). */
    void asks(MoonLine x, String call, int told) {
        is(x, call, 1);
        is(call + ", then asked()", x.asked(), told);
    }

    /** A call, and what it tells by asked() besides. */
    void asks(MoonLine x, String call, long want, int told) {
        is(x, call, want);
        is(call + ", then asked()", x.asked(), told);
    }

    /** A call that answers 1, and the chances or the number of ways that it tells. */
    void tells(MoonLine x, String call, long upper, long lower) {
        is(x, call, 1);
        told(call, x, upper, lower);
    }

    void told(String call, MoonLine x, long upper, long lower) {
        is(call + ", then upper()", x.upper(), upper);
        is(call + ", then lower()", x.lower(), lower);
    }

    /** A call that is refused, but not by a finding: it changes nothing at all. */
    void refused(MoonLine x, String call, int want) {
        long[] before = seen(x);
        is(x, call, want);
        same(call, seen(x), before);
    }

    /** A call that is refused by a finding: it changes finding(), findings() alone. */
    void finds(MoonLine x, String call, int which) {
        long[] before = seen(x);
        is(x, call, MoonLine.FINDING);
        before[SEEN_FINDING] = which;
        before[SEEN_FINDING + which]++;
        same(call, seen(x), before);
    }

    /** A call aside: it answers, and nothing of what digest() tells is another one. */
    void aside(MoonLine x, String call, long want) {
        long before = x.digest();
        is(x, call, want);
        is(call + ", then digest() as before", x.digest(), before);
    }

    private static long[] seen(MoonLine x) {
        return new long[] {x.digest(), x.asked(), x.upper(), x.lower(), x.finding(),
            x.findings(NOTHING), x.findings(BEYOND), x.findings(UNLIKE), x.findings(NOUGHT), x.findings(SIZE)};
    }

    private void same(String call, long[] got, long[] want) {
        String what = call + ", then digest, asked, upper, lower, finding, findings are " + Arrays.toString(got)
            + ", due are " + Arrays.toString(want);
        is(what, Arrays.equals(got, want) ? 1 : 0, 1);
    }

    /** Numbers outside of a range: next to its ends, and far away. */
    static int[] outside(int least, int most) {
        return new int[] {least - 1, most + 1, MIN, MAX};
    }

    static void write(MoonLine x, int t, String signs) {
        x.text(t, signs.length());
        for (int k = 0; k < signs.length(); k++) {
            x.put(t, k, signs.charAt(k));
        }
    }

    static MoonLine line(String signs) {
        MoonLine x = new MoonLine();
        write(x, 0, signs);
        x.line(0);
        return x;
    }

    static void fill(MoonLine x, int r, int... places) {
        x.row(r, places.length);
        for (int k = 0; k < places.length; k++) {
            x.lay(r, k, places[k]);
        }
    }

    /** Nights that are told as a text of 1 (clear) and 0. */
    static void nights(MoonLine x, int r, String nights) {
        fill(x, r, nights.chars().map(sign -> sign - '0').toArray());
    }

    static int asked(MoonLine x, int i, int what) {
        x.person(i, what);
        return x.asked();
    }

    void person(MoonLine x, int i, int what, int want) {
        asks(x, "person(" + i + ", " + what + ")", want);
    }

    void row(MoonLine x, int r, int... places) {
        for (int k = 0; k < places.length; k++) {
            asks(x, "at(" + r + ", " + k + ")", places[k]);
        }
        finds(x, "at(" + r + ", " + places.length + ")", BEYOND);
    }

    /** Who stands in the line, from the first place on; the others are out of it. */
    void order(MoonLine x, int... persons) {
        is(x, "count(3)", persons.length);
        for (int place = 0; place < persons.length; place++) {
            person(x, persons[place], 3, place);
        }
    }
}
