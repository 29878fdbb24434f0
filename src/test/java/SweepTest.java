import java.lang.reflect.Method;
import java.lang.reflect.Modifier;
import java.util.ArrayList;
import java.util.Arrays;
import java.util.List;

/** Each call with all numbers that stand at some boundary, in a few states, answered by MoonLine and by SlowLine. */
public final class SweepTest {
    private static final int MIN = Integer.MIN_VALUE, MAX = Integer.MAX_VALUE;
    private static final int[] EDGES = {MIN, -9, -1, 0, 1, 2, 3, 4, 5, 6, 7, 8, 9, 10, 11, 12, 13, 20, 21, 40, 41, 60, 61, MAX};
    private static final int[] FEWER = {MIN, -1, 0, 1, 2, 5, 6, 40, MAX};
    // an object is used for 512 calls at most, and some are needed to bring it to its state
    private static final int CALLS_OF_ONE = 60;
    private static final String[] LINES = {"", "d90 l32 s21 r94", "p90 w10 s92 d90 l90"};
    private static final Due due = new Due();

    private static MoonLine fast;
    private static SlowLine slow;
    private static int used;

    public static void main(String[] args) throws Exception {
        for (int state = 0; state < LINES.length; state++) {
            for (Method call : MoonLine.class.getDeclaredMethods()) {
                if (Modifier.isPublic(call.getModifiers())) {
                    used = CALLS_OF_ONE;
                    sweep(state, call, new Object[call.getParameterCount()], 0);
                }
            }
        }
        due.end("SweepTest");
    }

    private static void sweep(int state, Method call, Object[] numbers, int from) throws Exception {
        if (from == numbers.length) {
            compare(state, call, numbers);
            return;
        }
        for (int edge : numbers.length > 3 ? FEWER : EDGES) {
            numbers[from] = edge;
            sweep(state, call, numbers, from + 1);
        }
    }

    private static void compare(int state, Method call, Object[] numbers) throws Exception {
        if (used == CALLS_OF_ONE) {
            begin(state);
            used = 0;
        }
        used++;
        long before = fast.digest();
        long got = ((Number) call.invoke(fast, numbers)).longValue();
        long want = ((Number) SlowLine.class.getMethod(call.getName(), call.getParameterTypes()).invoke(slow, numbers)).longValue();
        String text = "state " + state + ": " + call.getName() + Arrays.toString(numbers);
        due.is(text, got, want);
        due.is(text + ", then asked()", fast.asked(), slow.asked());
        due.is(text + ", then upper()", fast.upper(), slow.upper());
        due.is(text + ", then lower()", fast.lower(), slow.lower());
        due.is(text + ", then finding()", fast.finding(), slow.finding());
        long after = fast.digest();
        due.is(text + ", then digest()", after, after == before && got < 0 ? before : slow.digest());
    }

    private static void begin(int state) throws Exception {
        fast = new MoonLine();
        slow = new SlowLine();
        if (state == 0) {
            return;
        }
        String signs = LINES[state];
        both("text", 0, signs.length());
        for (int k = 0; k < signs.length(); k++) {
            both("put", 0, k, (int) signs.charAt(k));
        }
        both("line", 0);
        for (int r = 0; r < 4; r++) {
            both("row", r, r == 3 ? 21 : 2 * r);
            both("lay", r, r, 1);
        }
        both("keep", 0);
        both("night", 0);
        if (state == 2) {
            both("keep", 2);
            both("lots", 20, 1);
            both("lots", 19, 7);
        }
    }

    private static void both(String name, Integer... numbers) throws Exception {
        Class<?>[] types = new Class<?>[numbers.length];
        Arrays.fill(types, int.class);
        List<Object> all = new ArrayList<>(Arrays.asList(numbers));
        long got = ((Number) MoonLine.class.getMethod(name, types).invoke(fast, all.toArray())).longValue();
        long want = ((Number) SlowLine.class.getMethod(name, types).invoke(slow, all.toArray())).longValue();
        due.is(name + all, got, want);
    }
}
