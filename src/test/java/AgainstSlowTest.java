import java.lang.reflect.Method;
import java.util.ArrayList;
import java.util.Arrays;
import java.util.Comparator;
import java.util.List;
import java.util.Random;
import java.util.TreeMap;

/** Runs of calls by lots, each answered by MoonLine and by SlowLine; the numbers come from fixed seeds. */
public final class AgainstSlowTest {
    // an object is used for 512 calls at most: a run ends ahead of that, whatever it still needs for one call more
    private static final int RUNS = 4000, USED_MOST = 440;
    private static final List<String> DEAR = List.of("soonest", "rows", "odds", "mid", "push", "pair", "cheap", "clear", "lies");
    private static final Due due = new Due();
    private static final TreeMap<String, Integer> fine = new TreeMap<>();
    private static int used = 0;

    public static void main(String[] args) throws Exception {
        List<Method> calls = new ArrayList<>(Arrays.asList(MoonLine.class.getDeclaredMethods()));
        calls.removeIf(m -> !java.lang.reflect.Modifier.isPublic(m.getModifiers()));
        calls.sort(Comparator.comparing(Method::getName));
        for (int run = 0; run < RUNS; run++) {
            runOnce(run, calls);
        }
        // a call that is always refused would not be tested at all
        for (Method call : calls) {
            due.is(call.getName() + " answered by lots", fine.getOrDefault(call.getName(), 0) > 30 ? 1 : 0, 1);
        }
        due.end("AgainstSlowTest");
    }

    private static void runOnce(int run, List<Method> calls) throws Exception {
        Random lots = new Random(run);
        MoonLine fast = new MoonLine();
        SlowLine slow = new SlowLine();
        used = 0;
        if (lots.nextInt(20) != 0) {
            beginLine(fast, slow, lots);
        }
        for (int k = 0; used < USED_MOST; k++) {
            Method call = calls.get(lots.nextInt(calls.size()));
            if (DEAR.contains(call.getName()) && lots.nextInt(3) != 0) {
                continue;
            }
            if (lots.nextInt(6) == 0) {
                prepareRows(fast, slow, lots);
            }
            Object[] numbers = numbersFor(call, lots);
            used += 6;
            long got = ((Number) call.invoke(fast, numbers)).longValue();
            long want = ((Number) SlowLine.class.getMethod(call.getName(), call.getParameterTypes()).invoke(slow, numbers)).longValue();
            String text = "run " + run + ", call " + k + ": " + call.getName() + Arrays.toString(numbers);
            due.is(text, got, want);
            due.is(text + " asked()", fast.asked(), slow.asked());
            due.is(text + " upper()", fast.upper(), slow.upper());
            due.is(text + " lower()", fast.lower(), slow.lower());
            due.is(text + " finding()", fast.finding(), slow.finding());
            due.is(text + " digest()", fast.digest(), slow.digest());
            if (got >= 0 || numbers.length == 0) {
                fine.merge(call.getName(), 1, Integer::sum);
            }
        }
        for (int f = 1; f <= 5; f++) {
            due.is("run " + run + ": findings(" + f + ")", fast.findings(f), slow.findings(f));
        }
    }

    private static void beginLine(MoonLine fast, SlowLine slow, Random lots) {
        StringBuilder signs = new StringBuilder();
        int persons = 1 + lots.nextInt(7);
        for (int k = 0; k < persons; k++) {
            signs.append("wpslrd".charAt(lots.nextInt(6)));
            signs.append(lots.nextInt(3) == 0 ? 1 + lots.nextInt(4) : 5 + lots.nextInt(5));
            signs.append(lots.nextInt(10));
            signs.append(" ".repeat(lots.nextInt(3)));
        }
        if (lots.nextInt(10) == 0) {
            signs.setCharAt(lots.nextInt(signs.length()), "wpslrd0159 x".charAt(lots.nextInt(12)));
        }
        used += signs.length() + 3;
        int t = lots.nextInt(4);
        fast.text(t, signs.length());
        slow.text(t, signs.length());
        for (int k = 0; k < signs.length(); k++) {
            fast.put(t, k, signs.charAt(k));
            slow.put(t, k, signs.charAt(k));
        }
        due.is("fault of '" + signs + "'", fast.fault(t), slow.fault(t));
        due.is("line of '" + signs + "'", fast.line(t), slow.line(t));
    }

    /** Rows that fit the calls which take nights, goers, pairs or merges. */
    private static void prepareRows(MoonLine fast, SlowLine slow, Random lots) {
        used++;
        int sort = lots.nextInt(5);
        int persons = Math.max(1, fast.count(0));
        int n = lots.nextInt(7);
        int r = lots.nextInt(6);
        if (sort == 0) {
            lay(fast, slow, r, lots.ints(n, 0, 2).toArray());
        } else if (sort == 1) {
            int[] nights = lots.ints(n, 0, 2).toArray();
            lay(fast, slow, r, nights);
            lay(fast, slow, (r + 1) % 6, trueGoers(fast, r, nights, lots));
        } else if (sort == 2) {
            lay(fast, slow, r, lots.ints(2 * n, 0, persons).toArray());
        } else if (sort == 3) {
            layMerge(fast, slow, lots);
        } else {
            lay(fast, slow, r, lots.ints(n, -2, 10).toArray());
        }
    }

    private static int[] trueGoers(MoonLine fast, int r, int[] nights, Random lots) {
        int[] goers = new int[nights.length];
        Arrays.fill(goers, MoonLine.NONE);
        used += 15;
        for (int i = 0; i < fast.count(0); i++) {
            int k = fast.turn(i, r);
            if (k >= 0) {
                goers[k] = i;
            }
        }
        if (goers.length > 0 && lots.nextInt(3) == 0) {
            goers[lots.nextInt(goers.length)] = MoonLine.NONE;
        }
        return goers;
    }

    private static void layMerge(MoonLine fast, SlowLine slow, Random lots) {
        int[] one = lots.ints(lots.nextInt(6), 0, 3).toArray();
        int[] other = lots.ints(lots.nextInt(6), 0, 3).toArray();
        int[] both = new int[one.length + other.length];
        int a = 0;
        for (int k = 0; k < both.length; k++) {
            boolean ofOne = k - a == other.length || a < one.length && lots.nextBoolean();
            both[k] = ofOne ? one[a++] : other[k - a];
        }
        if (both.length > 0 && lots.nextInt(3) == 0) {
            both[lots.nextInt(both.length)] = lots.nextInt(3);
        }
        lay(fast, slow, 0, one);
        lay(fast, slow, 1, other);
        lay(fast, slow, 2, both);
        used++;
        due.is("merged(0, 1, 2)", fast.merged(0, 1, 2), slow.merged(0, 1, 2));
    }

    private static void lay(MoonLine fast, SlowLine slow, int r, int[] places) {
        used += 1 + places.length;
        fast.row(r, places.length);
        slow.row(r, places.length);
        for (int k = 0; k < places.length; k++) {
            fast.lay(r, k, places[k]);
            slow.lay(r, k, places[k]);
        }
    }

    private static Object[] numbersFor(Method call, Random lots) {
        Object[] numbers = new Object[call.getParameterCount()];
        for (int k = 0; k < numbers.length; k++) {
            numbers[k] = number(lots);
        }
        if (call.getName().equals("undo") && lots.nextInt(3) != 0) {
            numbers[0] = lots.nextInt(40);
        }
        if (call.getName().equals("line") && lots.nextInt(2) != 0) {
            numbers[0] = -1;
        }
        if (call.getName().equals("lots") && lots.nextInt(2) != 0) {
            numbers[1] = 1 + lots.nextInt(2147483646);
        }
        return numbers;
    }

    private static int number(Random lots) {
        int sort = lots.nextInt(60);
        if (sort == 0) {
            return new int[] {Integer.MIN_VALUE, Integer.MAX_VALUE, -9, 60, 61, 40, 41}[lots.nextInt(7)];
        }
        if (sort < 4) {
            return -1 + lots.nextInt(24);
        }
        return sort < 20 ? lots.nextInt(3) : sort < 50 ? lots.nextInt(6) : lots.nextInt(11);
    }
}
