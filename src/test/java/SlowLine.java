import java.math.BigInteger;
import java.util.ArrayList;
import java.util.Arrays;
import java.util.Collections;
import java.util.List;
import java.util.TreeMap;

/**
 * The document once more, in the plainest way and with the whole Java library: every row of nights, every row of
 * trades, every order is gone through one by one. MoonLine is held against it.
 */
public final class SlowLine {
    private static final int BAD = -1, FULL = -2, FINDING = -3, STATE = -4, NONE = -9;
    private static final String LETTERS = "wpslrd";

    private final TreeMap<Integer, List<Integer>> rows = new TreeMap<>();
    private final TreeMap<Integer, List<Byte>> texts = new TreeMap<>();
    private final TreeMap<Integer, List<int[]>> kept = new TreeMap<>();
    private List<int[]> persons = new ArrayList<>();
    private List<int[]> deeds = new ArrayList<>();
    private final List<Integer> found = new ArrayList<>();
    private int asked = 0;
    private BigInteger upper = BigInteger.ZERO, lower = BigInteger.ONE;

    /** How the line stands; persons are {kind, patience, price}. */
    private static final class State {
        List<Integer> line = new ArrayList<>();
        int night = 0;
        TreeMap<Integer, Integer> went = new TreeMap<>();
        TreeMap<Integer, Integer> waited = new TreeMap<>();
        List<Integer> gaveUp = new ArrayList<>();

        State copy() {
            State s = new State();
            s.line = new ArrayList<>(line);
            s.night = night;
            s.went = new TreeMap<>(went);
            s.waited = new TreeMap<>(waited);
            s.gaveUp = new ArrayList<>(gaveUp);
            return s;
        }
    }

    private static boolean pusher(int kind) {
        return kind == 1 || kind == 4;
    }

    private static boolean sleeper(int kind) {
        return kind == 2 || kind == 5;
    }

    private static boolean asleep(int kind, int night) {
        if (kind == 5 && night % 3 == 0) {
            return false;
        }
        return sleeper(kind);
    }

    private static int pass(State s, List<int[]> who, int clear) {
        for (int i : new ArrayList<>(s.line)) {
            int times = who.get(i)[0] == 4 ? 2 : who.get(i)[0] == 1 ? 1 : 0;
            for (int k = 0; k < times; k++) {
                int place = s.line.indexOf(i);
                if (place == 0 || !asleep(who.get(s.line.get(place - 1))[0], s.night)) {
                    break;
                }
                s.line.remove(place);
                s.line.add(place - 1, i);
            }
        }
        int goer = NONE;
        if (clear == 1) {
            List<Integer> awake = new ArrayList<>();
            for (int i : s.line) {
                if (!asleep(who.get(i)[0], s.night)) {
                    awake.add(i);
                }
            }
            if (!awake.isEmpty()) {
                goer = awake.get(0);
                if (who.get(goer)[0] == 3 && awake.size() > 1) {
                    goer = awake.get(1);
                }
                s.line.remove((Integer) goer);
                s.went.put(goer, s.night);
            }
        }
        for (int i : new ArrayList<>(s.line)) {
            s.waited.merge(i, 1, Integer::sum);
            if (s.waited.get(i) == who.get(i)[1]) {
                s.line.remove((Integer) i);
                s.gaveUp.add(i);
            }
        }
        s.night++;
        return goer;
    }

    private State now() {
        State s = new State();
        for (int i = 0; i < persons.size(); i++) {
            s.line.add(i);
        }
        for (int[] deed : deeds) {
            if (deed.length == 1) {
                pass(s, persons, deed[0]);
            } else {
                Collections.swap(s.line, s.line.indexOf(deed[0]), s.line.indexOf(deed[1]));
            }
        }
        return s;
    }

    private int find(int f) {
        found.add(f);
        return FINDING;
    }

    private void tell(BigInteger over, BigInteger under) {
        BigInteger common = over.gcd(under);
        upper = over.divide(common);
        lower = under.divide(common);
    }

    private void tell(long ways) {
        tell(BigInteger.valueOf(ways), BigInteger.ONE);
    }

    private boolean noPerson(int i) {
        return i < 0 || i >= persons.size();
    }

    private static boolean out(int v, int least, int most) {
        return v < least || v > most;
    }

    private static int bits(Iterable<Integer> all) {
        int sum = 0;
        for (int i : all) {
            sum |= 1 << i;
        }
        return sum;
    }

    public int row(int r, int n) {
        if (out(r, 0, 5) || n > 40) return BAD;
        if (n < 0) return find(5);
        rows.put(r, new ArrayList<>(Collections.nCopies(n, 0)));
        return n;
    }

    public int lay(int r, int i, int v) {
        if (out(r, 0, 5)) return BAD;
        if (!rows.containsKey(r)) return find(1);
        if (out(i, 0, rows.get(r).size() - 1)) return find(2);
        asked = rows.get(r).set(i, v);
        return 1;
    }

    public int at(int r, int i) {
        if (out(r, 0, 5)) return BAD;
        if (!rows.containsKey(r)) return find(1);
        if (out(i, 0, rows.get(r).size() - 1)) return find(2);
        asked = rows.get(r).get(i);
        return 1;
    }

    public int tear(int r) {
        if (out(r, 0, 5)) return BAD;
        return rows.remove(r) == null ? find(1) : 1;
    }

    public int copy(int r, int i, int to, int j, int n) {
        if (out(r, 0, 5) || out(to, 0, 5)) return BAD;
        if (n < 0) return find(5);
        if (!rows.containsKey(r) || !rows.containsKey(to)) return find(1);
        if (i < 0 || j < 0 || (long) i + n > rows.get(r).size() || (long) j + n > rows.get(to).size()) return find(2);
        List<Integer> taken = new ArrayList<>(rows.get(r).subList(i, i + n));
        for (int k = 0; k < n; k++) {
            rows.get(to).set(j + k, taken.get(k));
        }
        return 1;
    }

    public int mean(int r) {
        if (out(r, 0, 5)) return BAD;
        if (!rows.containsKey(r)) return find(1);
        BigInteger sum = BigInteger.ZERO;
        for (int v : rows.get(r)) {
            sum = sum.add(BigInteger.valueOf(v));
        }
        if (rows.get(r).isEmpty()) return find(4);
        asked = sum.divide(BigInteger.valueOf(rows.get(r).size())).intValueExact();
        return 1;
    }

    public int text(int t, int n) {
        if (out(t, 0, 3) || n > 60) return BAD;
        if (n < 0) return find(5);
        texts.put(t, new ArrayList<>(Collections.nCopies(n, (byte) 32)));
        return n;
    }

    public int put(int t, int i, int v) {
        if (out(t, 0, 3)) return BAD;
        if (!texts.containsKey(t)) return find(1);
        if (out(i, 0, texts.get(t).size() - 1)) return find(2);
        return 1000 + texts.get(t).set(i, (byte) v);
    }

    private static String signs(List<Byte> text) {
        StringBuilder all = new StringBuilder();
        for (byte b : text) {
            all.append((char) (b & 255));
        }
        return all.toString();
    }

    /** The longest beginning that could still become a line tells the fault. */
    private static int faultOf(String signs) {
        String item = "[wpslrd][1-9][0-9] *";
        if (signs.matches(" *(" + item + "){1,7}")) return NONE;
        for (int k = signs.length(); k >= 0; k--) {
            String part = signs.substring(0, k);
            boolean open = part.matches(" *(" + item + "){0,7}") || part.matches(" *(" + item + "){0,6}[wpslrd][1-9]?");
            if (open) return k;
        }
        return 0;
    }

    public int fault(int t) {
        if (out(t, 0, 3)) return BAD;
        if (!texts.containsKey(t)) return find(1);
        return faultOf(signs(texts.get(t)));
    }

    public int line(int t) {
        if (out(t, 0, 3)) return BAD;
        if (!texts.containsKey(t)) return find(1);
        String signs = signs(texts.get(t));
        if (faultOf(signs) != NONE) return STATE;
        signs = signs.replace(" ", "");
        persons = new ArrayList<>();
        for (int k = 0; k < signs.length(); k += 3) {
            persons.add(new int[] {LETTERS.indexOf(signs.charAt(k)), signs.charAt(k + 1) - '0', signs.charAt(k + 2) - '0'});
        }
        deeds = new ArrayList<>();
        kept.clear();
        return persons.size();
    }

    private int detail(State s, int i, int what) {
        if (what < 3) return persons.get(i)[what];
        if (what == 3) return s.line.contains(i) ? s.line.indexOf(i) : NONE;
        if (what == 4) return s.waited.getOrDefault(i, 0);
        if (what == 5) return s.went.getOrDefault(i, NONE);
        return s.gaveUp.contains(i) ? 1 : 0;
    }

    public int person(int i, int what) {
        if (noPerson(i) || out(what, 0, 6)) return BAD;
        asked = detail(now(), i, what);
        return 1;
    }

    public int mark(int i, int kind) {
        if (noPerson(i) || out(kind, 1, 5)) return BAD;
        int own = persons.get(i)[0];
        boolean is = kind == 1 ? pusher(own) : kind == 2 ? sleeper(own) : own == kind;
        if (!is) return find(3);
        State s = now();
        if (!s.line.contains(i)) return NONE;
        int place = s.line.indexOf(i);
        int asleepAhead = 0, awakeBehind = 0, next = NONE;
        for (int k = 0; k < s.line.size(); k++) {
            boolean sleeps = asleep(persons.get(s.line.get(k))[0], s.night);
            if (k < place && sleeps) asleepAhead++;
            if (k > place && !sleeps) {
                awakeBehind++;
                if (next == NONE) next = s.line.get(k);
            }
        }
        if (kind == 1) return asleepAhead;
        if (kind == 2) return awakeBehind;
        if (kind == 3) return next;
        if (kind == 4) {
            int steps = 0;
            while (steps < 2 && place - steps > 0 && asleep(persons.get(s.line.get(place - steps - 1))[0], s.night)) {
                steps++;
            }
            return steps;
        }
        int nights = 0;
        while ((s.night + nights) % 3 != 0) {
            nights++;
        }
        return nights;
    }

    public int price(int i, int v) {
        if (noPerson(i) || out(v, 0, 9)) return BAD;
        int was = persons.get(i)[2];
        persons.get(i)[2] = v;
        return was;
    }

    public int night(int clear) {
        if (out(clear, 0, 1)) return BAD;
        if (persons.isEmpty()) return STATE;
        if (deeds.size() == 40) return FULL;
        State s = now();
        deeds.add(new int[] {clear});
        return pass(s, persons, clear);
    }

    public int trade(int i, int j) {
        if (noPerson(i) || noPerson(j) || i == j) return BAD;
        State s = now();
        if (!s.line.contains(i) || !s.line.contains(j)) return STATE;
        if (deeds.size() == 40) return FULL;
        deeds.add(new int[] {i, j});
        return 1;
    }

    public int undo(int n) {
        if (out(n, 0, deeds.size())) return BAD;
        int many = deeds.size() - n;
        deeds = new ArrayList<>(deeds.subList(0, n));
        return many;
    }

    public int keep(int k) {
        if (out(k, 0, 2)) return BAD;
        if (persons.isEmpty()) return STATE;
        kept.put(k, new ArrayList<>(deeds));
        return deeds.size();
    }

    public int on(int k) {
        if (out(k, 0, 2)) return BAD;
        if (!kept.containsKey(k)) return find(1);
        deeds = new ArrayList<>(kept.get(k));
        return deeds.size();
    }

    public int tonight() {
        State s = now();
        List<Integer> before = new ArrayList<>(s.gaveUp);
        int who = pass(s, persons, 1);
        s.gaveUp.removeAll(before);
        asked = bits(s.gaveUp);
        return who;
    }

    private int wrongNights(int r) {
        if (!rows.containsKey(r)) return 1;
        if (rows.get(r).size() > 20) return 5;
        for (int v : rows.get(r)) {
            if (out(v, 0, 1)) return 3;
        }
        return 0;
    }

    private int wrongGoers(int r, int most) {
        if (!rows.containsKey(r)) return 1;
        if (rows.get(r).size() > most) return 5;
        for (int v : rows.get(r)) {
            if (v != NONE && noPerson(v)) return 3;
        }
        return 0;
    }

    private static List<Integer> goers(State from, List<int[]> who, List<Integer> nights) {
        State s = from.copy();
        List<Integer> all = new ArrayList<>();
        for (int clear : nights) {
            all.add(pass(s, who, clear));
        }
        return all;
    }

    private static List<Integer> nightsOf(int code, int n) {
        List<Integer> nights = new ArrayList<>();
        for (int k = 0; k < n; k++) {
            nights.add(code >> k & 1);
        }
        return nights;
    }

    public int turn(int i, int r) {
        if (noPerson(i) || out(r, 0, 5)) return BAD;
        if (wrongNights(r) != 0) return find(wrongNights(r));
        int k = goers(now(), persons, rows.get(r)).indexOf(i);
        return k < 0 ? NONE : k;
    }

    public int after(int r) {
        if (out(r, 0, 5)) return BAD;
        if (wrongNights(r) != 0) return find(wrongNights(r));
        State s = now();
        for (int clear : rows.get(r)) {
            pass(s, persons, clear);
        }
        asked = bits(s.gaveUp);
        return bits(s.line);
    }

    public int soonest(int i, int n) {
        if (noPerson(i) || out(n, 1, 10)) return BAD;
        int least = 99;
        State from = now();
        for (int code = 0; code < 1 << n; code++) {
            int k = goers(from, persons, nightsOf(code, n)).indexOf(i);
            if (k >= 0) least = Math.min(least, k);
        }
        return least == 99 ? NONE : least;
    }

    public int rows(int i, int n) {
        if (noPerson(i) || out(n, 1, 10)) return BAD;
        int many = 0;
        State from = now();
        for (int code = 0; code < 1 << n; code++) {
            if (goers(from, persons, nightsOf(code, n)).contains(i)) many++;
        }
        return many;
    }

    private void tellMean(int n, int p, Integer who) {
        BigInteger sum = BigInteger.ZERO;
        State from = now();
        for (int code = 0; code < 1 << n; code++) {
            int clear = Integer.bitCount(code);
            BigInteger weight = BigInteger.valueOf(p).pow(clear).multiply(BigInteger.valueOf(12 - p).pow(n - clear));
            for (int i : goers(from, persons, nightsOf(code, n))) {
                if (i != NONE && (who == null || who == i)) sum = sum.add(weight);
            }
        }
        tell(sum, BigInteger.valueOf(12).pow(n));
    }

    public int odds(int i, int n, int p) {
        if (noPerson(i) || out(n, 0, 10) || out(p, 0, 12)) return BAD;
        tellMean(n, p, i);
        return 1;
    }

    public int mid(int n, int p) {
        if (out(n, 0, 10) || out(p, 0, 12)) return BAD;
        tellMean(n, p, null);
        return 1;
    }

    /** All rows of just so many trades, the first ones first. */
    private static List<List<Integer>> tradeRows(int places, int trades) {
        List<List<Integer>> all = new ArrayList<>();
        all.add(new ArrayList<>());
        for (int k = 0; k < trades; k++) {
            List<List<Integer>> longer = new ArrayList<>();
            for (List<Integer> row : all) {
                for (int place = 0; place + 1 < places; place++) {
                    List<Integer> next = new ArrayList<>(row);
                    next.add(place);
                    longer.add(next);
                }
            }
            all = longer;
        }
        return all;
    }

    private List<Integer> goersBehind(State from, List<Integer> trades, int n) {
        State s = from.copy();
        for (int place : trades) {
            Collections.swap(s.line, place, place + 1);
        }
        return goers(s, persons, Collections.nCopies(n, 1));
    }

    public int push(int i, int n, int r) {
        if (noPerson(i) || out(n, 1, 7) || out(r, 0, 5)) return BAD;
        State from = now();
        for (int trades = 0; trades <= 3; trades++) {
            for (List<Integer> row : tradeRows(from.line.size(), trades)) {
                if (goersBehind(from, row, n).contains(i)) {
                    rows.put(r, row);
                    return trades;
                }
            }
        }
        return NONE;
    }

    public int pair(int i, int j, int n) {
        if (noPerson(i) || noPerson(j) || i == j || out(n, 1, 7)) return BAD;
        State from = now();
        for (int trades = 0; trades <= 3; trades++) {
            for (List<Integer> row : tradeRows(from.line.size(), trades)) {
                if (Collections.indexOfSubList(goersBehind(from, row, n), Arrays.asList(i, j)) >= 0) return trades;
            }
        }
        return NONE;
    }

    public int cheap(int i, int n) {
        if (noPerson(i) || out(n, 1, 7)) return BAD;
        State from = now();
        int least = Integer.MAX_VALUE;
        for (int trades = 0; trades <= 3; trades++) {
            for (List<Integer> row : tradeRows(from.line.size(), trades)) {
                if (!goersBehind(from, row, n).contains(i)) continue;
                List<Integer> line = new ArrayList<>(from.line);
                int sum = 0;
                for (int place : row) {
                    sum += persons.get(line.get(place))[2] + persons.get(line.get(place + 1))[2];
                    Collections.swap(line, place, place + 1);
                }
                least = Math.min(least, sum);
            }
        }
        return least == Integer.MAX_VALUE ? NONE : least;
    }

    private boolean wins(State s, int i, int nights, int clouds) {
        if (nights == 0) return false;
        for (int trade = 0; trade <= 1; trade++) {
            State t = s.copy();
            int place = t.line.indexOf(i);
            if (trade == 1 && place < 1) continue;
            if (trade == 1) Collections.swap(t.line, place, place - 1);
            boolean always = true;
            for (int clear = clouds > 0 ? 0 : 1; clear <= 1; clear++) {
                State u = t.copy();
                boolean goes = pass(u, persons, clear) == i;
                always &= goes || wins(u, i, nights - 1, clouds - 1 + clear);
            }
            if (always) return true;
        }
        return false;
    }

    public int game(int i, int n) {
        if (noPerson(i) || out(n, 0, 4)) return BAD;
        return wins(now(), i, n, n / 2) ? 1 : 0;
    }

    public int kinds(int i, int r, int q) {
        if (noPerson(i) || out(r, 0, 5) || out(q, 0, 5)) return BAD;
        if (wrongNights(r) != 0) return find(wrongNights(r));
        if (wrongGoers(q, 20) != 0) return find(wrongGoers(q, 20));
        if (rows.get(r).size() != rows.get(q).size()) return find(5);
        int all = 0;
        for (int kind = 0; kind < 6; kind++) {
            List<int[]> who = new ArrayList<>(persons);
            who.set(i, new int[] {kind, persons.get(i)[1], 0});
            if (goers(now(), who, rows.get(r)).equals(rows.get(q))) all |= 1 << kind;
        }
        return all;
    }

    public int clear(int r) {
        if (out(r, 0, 5)) return BAD;
        if (wrongGoers(r, 10) != 0) return find(wrongGoers(r, 10));
        int n = rows.get(r).size(), many = 0, always = -1;
        State from = now();
        for (int code = 0; code < 1 << n; code++) {
            if (goers(from, persons, nightsOf(code, n)).equals(rows.get(r))) {
                many++;
                always &= code;
            }
        }
        tell(many);
        asked = many == 0 ? 0 : always;
        return 1;
    }

    private static List<List<Integer>> orders(int n) {
        List<List<Integer>> all = new ArrayList<>();
        all.add(new ArrayList<>());
        for (int i = 0; i < n; i++) {
            List<List<Integer>> longer = new ArrayList<>();
            for (List<Integer> order : all) {
                for (int place = 0; place <= i; place++) {
                    List<Integer> next = new ArrayList<>(order);
                    next.add(place, i);
                    longer.add(next);
                }
            }
            all = longer;
        }
        return all;
    }

    public int lies(int r) {
        if (out(r, 0, 5)) return BAD;
        if (persons.isEmpty()) return STATE;
        if (!rows.containsKey(r)) return find(1);
        List<Integer> row = rows.get(r);
        if (row.size() % 2 == 1 || row.size() > 16) return find(5);
        for (int k = 0; k < row.size(); k += 2) {
            if (noPerson(row.get(k)) || noPerson(row.get(k + 1)) || row.get(k).equals(row.get(k + 1))) return find(3);
        }
        TreeMap<Integer, Integer> times = new TreeMap<>();
        for (List<Integer> order : orders(persons.size())) {
            int lies = 0;
            for (int k = 0; k < row.size(); k += 2) {
                if (order.indexOf(row.get(k)) != order.indexOf(row.get(k + 1)) + 1) lies++;
            }
            times.merge(lies, 1, Integer::sum);
        }
        tell(times.firstEntry().getValue());
        return times.firstKey();
    }

    private static BigInteger factorial(int n) {
        return n < 2 ? BigInteger.ONE : factorial(n - 1).multiply(BigInteger.valueOf(n));
    }

    public int merge(int a, int b) {
        if (out(a, 0, 20) || out(b, 0, 20)) return BAD;
        tell(factorial(a + b).divide(factorial(a)).divide(factorial(b)), BigInteger.ONE);
        return 1;
    }

    /** Which places of the first row may be the next ones, place after place of the third. */
    public int merged(int r, int q, int third) {
        if (out(r, 0, 5) || out(q, 0, 5) || out(third, 0, 5)) return BAD;
        if (!rows.containsKey(r) || !rows.containsKey(q) || !rows.containsKey(third)) return find(1);
        List<Integer> one = rows.get(r), other = rows.get(q), both = rows.get(third);
        if (one.size() + other.size() != both.size()) return find(5);
        java.util.TreeSet<Integer> taken = new java.util.TreeSet<>(List.of(0));
        for (int k = 0; k < both.size(); k++) {
            java.util.TreeSet<Integer> next = new java.util.TreeSet<>();
            for (int a : taken) {
                if (a < one.size() && one.get(a).equals(both.get(k))) next.add(a + 1);
                if (k - a < other.size() && other.get(k - a).equals(both.get(k))) next.add(a);
            }
            taken = next;
        }
        return taken.contains(one.size()) ? 1 : 0;
    }

    public int message(int i) {
        if (noPerson(i)) return BAD;
        State s = now();
        if (!s.line.contains(i)) return STATE;
        int place = s.line.indexOf(i), nights = 0;
        for (; place > 0; nights++) {
            boolean sleeps = asleep(persons.get(s.line.get(place - 1))[0], s.night + nights);
            place = Math.max(0, place - (sleeps ? 1 : 2));
        }
        return nights;
    }

    public int lots(int n, int seed) {
        if (out(n, 1, 20) || out(seed, 1, 2147483646)) return BAD;
        if (persons.isEmpty()) return STATE;
        if (deeds.size() + n > 40) return FULL;
        int went = 0;
        BigInteger lot = BigInteger.valueOf(seed);
        for (int k = 0; k < n; k++) {
            lot = lot.multiply(BigInteger.valueOf(48271)).mod(BigInteger.valueOf(2147483647));
            if (night(lot.testBit(4) ? 1 : 0) != NONE) went++;
        }
        return went;
    }

    public int asked() {
        return asked;
    }

    public long upper() {
        return upper.longValueExact();
    }

    public long lower() {
        return lower.longValueExact();
    }

    public int count(int what) {
        State s = now();
        int pushers = 0, sleepers = 0;
        for (int[] p : persons) {
            pushers += pusher(p[0]) ? 1 : 0;
            sleepers += sleeper(p[0]) ? 1 : 0;
        }
        int[] all = {persons.size(), s.night, deeds.size(), s.line.size(), s.went.size(), s.gaveUp.size(),
            pushers, sleepers, rows.size(), texts.size(), kept.size()};
        return out(what, 0, 10) ? BAD : all[what];
    }

    public int finding() {
        return found.isEmpty() ? 0 : found.get(found.size() - 1);
    }

    public int findings(int f) {
        return out(f, 1, 5) ? BAD : Collections.frequency(found, f);
    }

    public long digest() {
        List<Integer> all = new ArrayList<>();
        State s = now();
        for (int what = 0; what <= 10; what++) {
            all.add(count(what));
        }
        for (int i = 0; i < persons.size(); i++) {
            for (int what = 0; what <= 6; what++) {
                all.add(detail(s, i, what));
            }
        }
        for (int k = 0; k < 3; k++) {
            all.add(kept.containsKey(k) ? kept.get(k).size() : -1);
        }
        for (int r = 0; r < 6; r++) {
            all.add(rows.containsKey(r) ? rows.get(r).size() : -1);
            all.addAll(rows.getOrDefault(r, List.of()));
        }
        for (int t = 0; t < 4; t++) {
            all.add(texts.containsKey(t) ? texts.get(t).size() : -1);
            for (int v : texts.getOrDefault(t, List.of())) {
                all.add(v);
            }
        }
        long h = 17;
        for (int v : all) {
            h = 31 * h + v;
        }
        return h;
    }
}
