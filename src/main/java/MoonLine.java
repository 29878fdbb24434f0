import java.util.Arrays;

/** The queue for the moon: persons of kinds in a line that moves by one on clear nights. */
public final class MoonLine {
    public static final int BAD = -1, FULL = -2, FINDING = -3, STATE = -4, SPENT = -6, NONE = -9;

    private static final int NOTHING = 1, BEYOND = 2, UNLIKE = 3, NOUGHT = 4, SIZE = 5;
    private static final int WAITER = 0, PUSHER = 1, SLEEPER = 2, LOVER = 3, RAM = 4, DREAMER = 5;
    private static final int ALL_KINDS = 6;
    private static final char[] LETTERS = {'w', 'p', 's', 'l', 'r', 'd'};

    private static final int ALL_ROWS = 6, ROW_MOST = 40, ALL_TEXTS = 4, TEXT_MOST = 60;
    private static final int PERSONS_MOST = 7, DEEDS_MOST = 40, ALL_KEPT = 3;
    private static final int MISSING = -1, BLANK = 32;
    private static final int PRICE_MOST = 9, DETAILS = 7, COUNTS = 11;
    private static final int TOLD_NIGHTS_MOST = 20, WALK_MOST = 10, LOTS_MOST = 20;
    private static final int TRADE_NIGHTS_MOST = 7, TRADES_MOST = 3, GAME_MOST = 4;
    private static final int PAIRS_MOST = 8, MERGE_MOST = 20, CHANCE_PARTS = 12;
    private static final int ANYBODY = -1, NOBODY = -2;
    private static final int CLOUDY_NIGHT = 0, CLEAR_NIGHT = 1, TRADE_FROM = 2;
    private static final long LOT_FACTOR = 48271L, LOT_MODULUS = 2147483647L;
    // far above the steps that Euclid's way needs for two longs
    private static final int DIVISOR_STEPS = 200;

    private final Row[] allRows = new Row[ALL_ROWS];
    private final Text[] allTexts = new Text[ALL_TEXTS];
    private final Crowd crowd = new Crowd();
    private final Crowd draft = new Crowd();
    private final Queue queue = new Queue();
    private final Queue aside = new Queue();
    private final Deeds deeds = new Deeds();
    private final Deeds[] kept = new Deeds[ALL_KEPT];
    private final NightWalk walk = new NightWalk();
    private final TradeSearch search = new TradeSearch();
    private final CloudGame cloudGame = new CloudGame();
    private final Memories memories = new Memories();
    private final boolean[] reached = new boolean[ROW_MOST + 1];
    private final int[] findingTimes = new int[SIZE + 1];
    private int latestFinding = 0;
    private int toldNumber = 0;
    private long toldUpper = 0;
    private long toldLower = 1;

    public MoonLine() {
        for (int r = 0; r < ALL_ROWS; r++) {
            allRows[r] = new Row();
        }
        for (int t = 0; t < ALL_TEXTS; t++) {
            allTexts[t] = new Text();
        }
        for (int k = 0; k < ALL_KEPT; k++) {
            kept[k] = new Deeds();
            kept[k].number = MISSING;
        }
    }

    // ---- 1 rows, texts, lines

    public int row(int r, int n) {
        if (!isRow(r) || n > ROW_MOST) {
            return BAD;
        }
        if (n < 0) {
            return find(SIZE);
        }
        allRows[r].beginWith(n);
        return n;
    }

    public int lay(int r, int i, int v) {
        int refusal = refusalOfPlace(r, i);
        if (refusal != 0) {
            return refusal;
        }
        toldNumber = allRows[r].places[i];
        allRows[r].places[i] = v;
        return 1;
    }

    public int at(int r, int i) {
        int refusal = refusalOfPlace(r, i);
        if (refusal != 0) {
            return refusal;
        }
        toldNumber = allRows[r].places[i];
        return 1;
    }

    public int tear(int r) {
        int refusal = refusalOfRow(r);
        if (refusal != 0) {
            return refusal;
        }
        allRows[r].size = MISSING;
        return 1;
    }

    public int copy(int r, int i, int to, int j, int n) {
        if (!isRow(r) || !isRow(to)) {
            return BAD;
        }
        if (n < 0) {
            return find(SIZE);
        }
        Row source = allRows[r];
        Row target = allRows[to];
        if (source.isMissing() || target.isMissing()) {
            return find(NOTHING);
        }
        if (!source.hasSpan(i, n) || !target.hasSpan(j, n)) {
            return find(BEYOND);
        }
        // arraycopy takes all places ahead, also within one row
        System.arraycopy(source.places, i, target.places, j, n);
        return 1;
    }

    public int mean(int r) {
        int refusal = refusalOfRow(r);
        if (refusal != 0) {
            return refusal;
        }
        Row row = allRows[r];
        if (row.size == 0) {
            return find(NOUGHT);
        }
        toldNumber = (int) (row.sum() / row.size);
        return 1;
    }

    public int text(int t, int n) {
        if (!isText(t) || n > TEXT_MOST) {
            return BAD;
        }
        if (n < 0) {
            return find(SIZE);
        }
        allTexts[t].beginWith(n);
        return n;
    }

    public int put(int t, int i, int v) {
        int refusal = refusalOfText(t);
        if (refusal != 0) {
            return refusal;
        }
        Text text = allTexts[t];
        if (!text.has(i)) {
            return find(BEYOND);
        }
        int was = text.bytes[i];
        text.bytes[i] = (byte) v;
        return was + 1000;
    }

    public int fault(int t) {
        int refusal = refusalOfText(t);
        return refusal != 0 ? refusal : draft.read(allTexts[t]);
    }

    public int line(int t) {
        int refusal = refusalOfText(t);
        if (refusal != 0) {
            return refusal;
        }
        if (draft.read(allTexts[t]) != NONE) {
            return STATE;
        }
        crowd.setAs(draft);
        deeds.number = 0;
        queue.beginWith(crowd.number);
        for (int k = 0; k < ALL_KEPT; k++) {
            kept[k].number = MISSING;
        }
        return crowd.number;
    }

    public int person(int i, int what) {
        if (!crowd.has(i) || what < 0 || what >= DETAILS) {
            return BAD;
        }
        toldNumber = detailOf(i, what);
        return 1;
    }

    public int mark(int i, int kind) {
        if (!crowd.has(i) || kind <= WAITER || kind >= ALL_KINDS) {
            return BAD;
        }
        if (!crowd.isOf(i, kind)) {
            return find(UNLIKE);
        }
        int place = queue.placeOf(i);
        if (place == NONE) {
            return NONE;
        }
        switch (kind) {
            case PUSHER:
                return queue.asleepAhead(crowd, place);
            case SLEEPER:
                return queue.awakeBehind(crowd, place);
            case LOVER:
                return queue.firstAwakeFrom(crowd, place + 1);
            case RAM:
                return queue.stepsOfRam(crowd, place);
            default:
                return (3 - queue.night % 3) % 3;
        }
    }

    public int price(int i, int v) {
        if (!crowd.has(i) || v < 0 || v > PRICE_MOST) {
            return BAD;
        }
        int was = crowd.price[i];
        crowd.price[i] = v;
        return was;
    }

    // ---- 2 deeds

    public int night(int clear) {
        if (clear != CLOUDY_NIGHT && clear != CLEAR_NIGHT) {
            return BAD;
        }
        if (crowd.number == 0) {
            return STATE;
        }
        if (!deeds.hasRoomFor(1)) {
            return FULL;
        }
        return passNight(clear);
    }

    public int trade(int i, int j) {
        if (!crowd.has(i) || !crowd.has(j) || i == j) {
            return BAD;
        }
        if (queue.placeOf(i) == NONE || queue.placeOf(j) == NONE) {
            return STATE;
        }
        if (!deeds.hasRoomFor(1)) {
            return FULL;
        }
        deeds.add(TRADE_FROM + i * PERSONS_MOST + j);
        queue.swapPersons(i, j);
        return 1;
    }

    public int undo(int n) {
        if (n < 0 || n > deeds.number) {
            return BAD;
        }
        int undone = deeds.number - n;
        deeds.number = n;
        doDeedsAnew();
        return undone;
    }

    public int keep(int k) {
        if (!isKeptPlace(k)) {
            return BAD;
        }
        if (crowd.number == 0) {
            return STATE;
        }
        kept[k].setAs(deeds);
        return deeds.number;
    }

    public int on(int k) {
        if (!isKeptPlace(k)) {
            return BAD;
        }
        if (kept[k].number == MISSING) {
            return find(NOTHING);
        }
        deeds.setAs(kept[k]);
        doDeedsAnew();
        return deeds.number;
    }

    // ---- 3 whose turn (aside)

    public int tonight() {
        aside.setAs(queue);
        int who = aside.pass(crowd, true);
        toldNumber = aside.gaveUp & ~queue.gaveUp;
        return who;
    }

    public int turn(int i, int r) {
        if (!crowd.has(i) || !isRow(r)) {
            return BAD;
        }
        int wrong = wrongInNights(allRows[r]);
        if (wrong != 0) {
            return find(wrong);
        }
        Row nights = allRows[r];
        aside.setAs(queue);
        for (int k = 0; k < nights.size; k++) {
            if (aside.pass(crowd, nights.places[k] == CLEAR_NIGHT) == i) {
                return k;
            }
        }
        return NONE;
    }

    public int after(int r) {
        if (!isRow(r)) {
            return BAD;
        }
        int wrong = wrongInNights(allRows[r]);
        if (wrong != 0) {
            return find(wrong);
        }
        Row nights = allRows[r];
        aside.setAs(queue);
        for (int k = 0; k < nights.size; k++) {
            aside.pass(crowd, nights.places[k] == CLEAR_NIGHT);
        }
        toldNumber = aside.gaveUp;
        return aside.standing();
    }

    public int soonest(int i, int n) {
        if (!crowd.has(i) || n < 1 || n > WALK_MOST) {
            return BAD;
        }
        walk.begin(crowd, queue, n);
        walk.waitFor(i, 1, 1);
        walk.ways();
        return walk.soonestNight < n ? walk.soonestNight : NONE;
    }

    public int rows(int i, int n) {
        if (!crowd.has(i) || n < 1 || n > WALK_MOST) {
            return BAD;
        }
        walk.begin(crowd, queue, n);
        walk.waitFor(i, 1, 1);
        return (int) walk.ways();
    }

    public int odds(int i, int n, int p) {
        if (!crowd.has(i) || n < 0 || n > WALK_MOST || !isChance(p)) {
            return BAD;
        }
        walk.begin(crowd, queue, n);
        walk.waitFor(i, p, CHANCE_PARTS - p);
        tellChance(walk.ways(), walk.allWays(n));
        return 1;
    }

    public int mid(int n, int p) {
        if (n < 0 || n > WALK_MOST || !isChance(p)) {
            return BAD;
        }
        walk.begin(crowd, queue, n);
        walk.waitFor(ANYBODY, p, CHANCE_PARTS - p);
        tellChance(walk.ways(), walk.allWays(n));
        return 1;
    }

    // ---- 4 trades (aside)

    public int push(int i, int n, int r) {
        if (!crowd.has(i) || !isTradeNights(n) || !isRow(r)) {
            return BAD;
        }
        search.begin(crowd, queue, n);
        search.seek(i, NOBODY);
        int fewest = search.fewestTrades();
        if (fewest == NONE) {
            return NONE;
        }
        Row row = allRows[r];
        row.beginWith(fewest);
        for (int k = 0; k < fewest; k++) {
            row.places[k] = search.chosen[k];
        }
        return fewest;
    }

    public int pair(int i, int j, int n) {
        if (!crowd.has(i) || !crowd.has(j) || i == j || !isTradeNights(n)) {
            return BAD;
        }
        search.begin(crowd, queue, n);
        search.seek(i, j);
        return search.fewestTrades();
    }

    public int cheap(int i, int n) {
        if (!crowd.has(i) || !isTradeNights(n)) {
            return BAD;
        }
        search.begin(crowd, queue, n);
        search.seek(i, NOBODY);
        return search.leastPrice();
    }

    public int game(int i, int n) {
        if (!crowd.has(i) || n < 0 || n > GAME_MOST) {
            return BAD;
        }
        cloudGame.begin(crowd, queue, i, n);
        return cloudGame.isWon() ? 1 : 0;
    }

    // ---- 5 who went when

    public int kinds(int i, int r, int q) {
        if (!crowd.has(i) || !isRow(r) || !isRow(q)) {
            return BAD;
        }
        int wrong = wrongInNights(allRows[r]);
        if (wrong == 0) {
            wrong = wrongInGoers(allRows[q], TOLD_NIGHTS_MOST);
        }
        if (wrong == 0 && allRows[r].size != allRows[q].size) {
            wrong = SIZE;
        }
        if (wrong != 0) {
            return find(wrong);
        }
        int fitting = 0;
        for (int kind = 0; kind < ALL_KINDS; kind++) {
            draft.setAs(crowd);
            draft.kind[i] = kind;
            if (goSo(draft, allRows[r], allRows[q])) {
                fitting |= 1 << kind;
            }
        }
        return fitting;
    }

    public int clear(int r) {
        if (!isRow(r)) {
            return BAD;
        }
        int wrong = wrongInGoers(allRows[r], WALK_MOST);
        if (wrong != 0) {
            return find(wrong);
        }
        walk.begin(crowd, queue, allRows[r].size);
        walk.countFitting(allRows[r]);
        tellWays(walk.fitting);
        toldNumber = walk.alwaysClear();
        return 1;
    }

    // ---- 6 forged places, two lines, messages

    public int lies(int r) {
        if (!isRow(r)) {
            return BAD;
        }
        if (crowd.number == 0) {
            return STATE;
        }
        Row row = allRows[r];
        int wrong = wrongInPairs(row);
        if (wrong != 0) {
            return find(wrong);
        }
        memories.begin(crowd.number);
        for (int k = 0; k + 1 < row.size; k += 2) {
            memories.addPair(row.places[k], row.places[k + 1]);
        }
        memories.countOrders();
        tellWays(memories.ways);
        return row.size / 2 - memories.mostTrue;
    }

    public int merge(int a, int b) {
        if (a < 0 || a > MERGE_MOST || b < 0 || b > MERGE_MOST) {
            return BAD;
        }
        long ways = 1;
        for (int k = 1; k <= b; k++) {
            // exact at each step: then it is the number for a and k
            ways = ways * (a + k) / k;
        }
        tellWays(ways);
        return 1;
    }

    public int merged(int r, int q, int third) {
        if (!isRow(r) || !isRow(q) || !isRow(third)) {
            return BAD;
        }
        Row one = allRows[r];
        Row other = allRows[q];
        Row both = allRows[third];
        if (one.isMissing() || other.isMissing() || both.isMissing()) {
            return find(NOTHING);
        }
        if (one.size + other.size != both.size) {
            return find(SIZE);
        }
        return isMerge(one, other, both) ? 1 : 0;
    }

    public int message(int i) {
        if (!crowd.has(i)) {
            return BAD;
        }
        int place = queue.placeOf(i);
        if (place == NONE) {
            return STATE;
        }
        int nights = 0;
        while (place > 0 && nights < PERSONS_MOST) {
            boolean slow = crowd.isAsleep(queue.whoAt(place - 1), queue.night + nights);
            place -= slow ? 1 : 2;
            nights++;
        }
        return nights;
    }

    public int lots(int n, int seed) {
        if (n < 1 || n > LOTS_MOST || seed < 1 || seed >= LOT_MODULUS) {
            return BAD;
        }
        if (crowd.number == 0) {
            return STATE;
        }
        if (!deeds.hasRoomFor(n)) {
            return FULL;
        }
        long lot = seed;
        int went = 0;
        for (int k = 0; k < n; k++) {
            lot = lot * LOT_FACTOR % LOT_MODULUS;
            boolean isOdd = lot / 16 % 2 == 1;
            if (passNight(isOdd ? CLEAR_NIGHT : CLOUDY_NIGHT) != NONE) {
                went++;
            }
        }
        return went;
    }

    // ---- 7 what is told

    public int asked() {
        return toldNumber;
    }

    public long upper() {
        return toldUpper;
    }

    public long lower() {
        return toldLower;
    }

    public int count(int what) {
        if (what < 0 || what >= COUNTS) {
            return BAD;
        }
        return numberOf(what);
    }

    public int finding() {
        return latestFinding;
    }

    public int findings(int f) {
        if (f < NOTHING || f > SIZE) {
            return BAD;
        }
        return findingTimes[f];
    }

    public long digest() {
        long h = 17;
        for (int what = 0; what < COUNTS; what++) {
            h = 31 * h + numberOf(what);
        }
        for (int i = 0; i < crowd.number; i++) {
            for (int what = 0; what < DETAILS; what++) {
                h = 31 * h + detailOf(i, what);
            }
        }
        for (int k = 0; k < ALL_KEPT; k++) {
            h = 31 * h + kept[k].number;
        }
        for (int r = 0; r < ALL_ROWS; r++) {
            h = allRows[r].addTo(h);
        }
        for (int t = 0; t < ALL_TEXTS; t++) {
            h = allTexts[t].addTo(h);
        }
        return h;
    }

    // ---- what the calls share

    private static boolean isRow(int r) {
        return r >= 0 && r < ALL_ROWS;
    }

    private static boolean isText(int t) {
        return t >= 0 && t < ALL_TEXTS;
    }

    private static boolean isKeptPlace(int k) {
        return k >= 0 && k < ALL_KEPT;
    }

    private static boolean isChance(int p) {
        return p >= 0 && p <= CHANCE_PARTS;
    }

    private static boolean isTradeNights(int n) {
        return n >= 1 && n <= TRADE_NIGHTS_MOST;
    }

    private int find(int which) {
        latestFinding = which;
        if (which >= 0 && which < findingTimes.length) {
            findingTimes[which]++;
        }
        return FINDING;
    }

    // 0: not refused
    private int refusalOfRow(int r) {
        if (!isRow(r)) {
            return BAD;
        }
        return allRows[r].isMissing() ? find(NOTHING) : 0;
    }

    private int refusalOfPlace(int r, int i) {
        int refusal = refusalOfRow(r);
        if (refusal != 0) {
            return refusal;
        }
        return allRows[r].has(i) ? 0 : find(BEYOND);
    }

    private int refusalOfText(int t) {
        if (!isText(t)) {
            return BAD;
        }
        return allTexts[t].isMissing() ? find(NOTHING) : 0;
    }

    private void tellWays(long ways) {
        toldUpper = ways;
        toldLower = 1;
    }

    private void tellChance(long ways, long allWays) {
        long divisor = commonDivisor(ways, allWays);
        if (divisor == 0) {
            return;
        }
        toldUpper = ways / divisor;
        toldLower = allWays / divisor;
    }

    private static long commonDivisor(long a, long b) {
        long large = a;
        long small = b;
        for (int step = 0; step < DIVISOR_STEPS && small != 0; step++) {
            long rest = large % small;
            large = small;
            small = rest;
        }
        return large;
    }

    private int numberOf(int what) {
        switch (what) {
            case 0:
                return crowd.number;
            case 1:
                return queue.night;
            case 2:
                return deeds.number;
            case 3:
                return queue.size;
            case 4:
                // who neither stands nor gave up has gone
                return crowd.number - queue.size - Integer.bitCount(queue.gaveUp);
            case 5:
                return Integer.bitCount(queue.gaveUp);
            case 6:
                return crowd.howMany(PUSHER);
            case 7:
                return crowd.howMany(SLEEPER);
            case 8:
                return rowsThere();
            case 9:
                return textsThere();
            default:
                return keptThere();
        }
    }

    private int rowsThere() {
        int there = 0;
        for (int r = 0; r < ALL_ROWS; r++) {
            there += allRows[r].isMissing() ? 0 : 1;
        }
        return there;
    }

    private int textsThere() {
        int there = 0;
        for (int t = 0; t < ALL_TEXTS; t++) {
            there += allTexts[t].isMissing() ? 0 : 1;
        }
        return there;
    }

    private int keptThere() {
        int there = 0;
        for (int k = 0; k < ALL_KEPT; k++) {
            there += kept[k].number == MISSING ? 0 : 1;
        }
        return there;
    }

    private int detailOf(int i, int what) {
        if (!crowd.has(i)) {
            return NONE;
        }
        switch (what) {
            case 0:
                return crowd.kind[i];
            case 1:
                return crowd.patience[i];
            case 2:
                return crowd.price[i];
            case 3:
                return queue.placeOf(i);
            case 4:
                return queue.waited[i];
            case 5:
                return queue.wentIn[i];
            default:
                return queue.gaveUp >> i & 1;
        }
    }

    private int passNight(int clear) {
        deeds.add(clear);
        return queue.pass(crowd, clear == CLEAR_NIGHT);
    }

    // kinds and patience never change, so the deeds alone tell how the line stands
    private void doDeedsAnew() {
        queue.beginWith(crowd.number);
        for (int k = 0; k < deeds.number; k++) {
            int deed = deeds.deed[k];
            if (deed < TRADE_FROM) {
                queue.pass(crowd, deed == CLEAR_NIGHT);
            } else {
                int two = deed - TRADE_FROM;
                queue.swapPersons(two / PERSONS_MOST, two % PERSONS_MOST);
            }
        }
    }

    private static int wrongInNights(Row row) {
        if (row.isMissing()) {
            return NOTHING;
        }
        if (row.size > TOLD_NIGHTS_MOST) {
            return SIZE;
        }
        for (int k = 0; k < row.size; k++) {
            if (row.places[k] != CLOUDY_NIGHT && row.places[k] != CLEAR_NIGHT) {
                return UNLIKE;
            }
        }
        return 0;
    }

    private int wrongInGoers(Row row, int most) {
        if (row.isMissing()) {
            return NOTHING;
        }
        if (row.size > most) {
            return SIZE;
        }
        for (int k = 0; k < row.size; k++) {
            if (row.places[k] != NONE && !crowd.has(row.places[k])) {
                return UNLIKE;
            }
        }
        return 0;
    }

    private int wrongInPairs(Row row) {
        if (row.isMissing()) {
            return NOTHING;
        }
        if (row.size % 2 != 0 || row.size > 2 * PAIRS_MOST) {
            return SIZE;
        }
        for (int k = 0; k + 1 < row.size; k += 2) {
            int one = row.places[k];
            int other = row.places[k + 1];
            if (!crowd.has(one) || !crowd.has(other) || one == other) {
                return UNLIKE;
            }
        }
        return 0;
    }

    private boolean goSo(Crowd supposed, Row nights, Row goers) {
        aside.setAs(queue);
        for (int k = 0; k < nights.size && k < goers.size; k++) {
            int who = aside.pass(supposed, nights.places[k] == CLEAR_NIGHT);
            if (who != goers.places[k]) {
                return false;
            }
        }
        return true;
    }

    // reached[b]: the first a + b places of both can come from a of one and b of the other
    private boolean isMerge(Row one, Row other, Row both) {
        for (int a = 0; a <= one.size; a++) {
            for (int b = 0; b <= other.size && b < reached.length; b++) {
                boolean byOne = a > 0 && reached[b] && one.places[a - 1] == both.places[a + b - 1];
                boolean byOther = b > 0 && reached[b - 1] && other.places[b - 1] == both.places[a + b - 1];
                reached[b] = a + b == 0 || byOne || byOther;
            }
        }
        return reached[other.size];
    }

    private static final class Row {
        final int[] places = new int[ROW_MOST];
        int size = MISSING;

        boolean isMissing() {
            return size == MISSING;
        }

        boolean has(int i) {
            return i >= 0 && i < size;
        }

        boolean hasSpan(int from, int n) {
            return from >= 0 && from <= size && n <= size - from;
        }

        void beginWith(int n) {
            size = Math.min(n, ROW_MOST);
            Arrays.fill(places, 0);
        }

        long sum() {
            long sum = 0;
            for (int k = 0; k < size; k++) {
                sum += places[k];
            }
            return sum;
        }

        long addTo(long h) {
            long sum = 31 * h + size;
            for (int k = 0; k < size; k++) {
                sum = 31 * sum + places[k];
            }
            return sum;
        }
    }

    private static final class Text {
        final byte[] bytes = new byte[TEXT_MOST];
        int size = MISSING;

        boolean isMissing() {
            return size == MISSING;
        }

        boolean has(int i) {
            return i >= 0 && i < size;
        }

        void beginWith(int n) {
            size = Math.min(n, TEXT_MOST);
            Arrays.fill(bytes, (byte) BLANK);
        }

        long addTo(long h) {
            long sum = 31 * h + size;
            for (int k = 0; k < size; k++) {
                sum = 31 * sum + bytes[k];
            }
            return sum;
        }
    }

    /** What of the persons no night changes. */
    private static final class Crowd {
        final int[] kind = new int[PERSONS_MOST];
        final int[] patience = new int[PERSONS_MOST];
        final int[] price = new int[PERSONS_MOST];
        int number = 0;

        boolean has(int i) {
            return i >= 0 && i < number;
        }

        void setAs(Crowd model) {
            number = model.number;
            System.arraycopy(model.kind, 0, kind, 0, PERSONS_MOST);
            System.arraycopy(model.patience, 0, patience, 0, PERSONS_MOST);
            System.arraycopy(model.price, 0, price, 0, PERSONS_MOST);
        }

        boolean isOf(int i, int wanted) {
            if (!has(i)) {
                return false;
            }
            int own = kind[i];
            return own == wanted || wanted == WAITER
                || own == RAM && wanted == PUSHER
                || own == DREAMER && wanted == SLEEPER;
        }

        boolean isAsleep(int i, int night) {
            // not by has(): here the longest chain of calls ends, and LANGUAGE.md allows eight
            if (i < 0 || i >= number) {
                return false;
            }
            return kind[i] == SLEEPER || kind[i] == DREAMER && night % 3 != 0;
        }

        int howMany(int wanted) {
            int many = 0;
            for (int i = 0; i < number; i++) {
                many += isOf(i, wanted) ? 1 : 0;
            }
            return many;
        }

        /** Takes the persons of a text: the place of its fault, or NONE. */
        int read(Text text) {
            number = 0;
            int part = 0;
            for (int k = 0; k < text.size; k++) {
                int sign = text.bytes[k];
                if (part == 0 && sign == BLANK) {
                    continue;
                }
                if (!takes(part, sign)) {
                    return k;
                }
                part = (part + 1) % 3;
            }
            return part != 0 || number == 0 ? text.size : NONE;
        }

        private boolean takes(int part, int sign) {
            if (part == 0) {
                return takesLetter(sign);
            }
            int figure = sign - '0';
            if (figure < 0 || figure > 9 || number < 1) {
                return false;
            }
            if (part == 2) {
                price[number - 1] = figure;
                return true;
            }
            patience[number - 1] = figure;
            return figure > 0;
        }

        private boolean takesLetter(int sign) {
            if (number >= PERSONS_MOST) {
                return false;
            }
            for (int k = 0; k < ALL_KINDS; k++) {
                if (LETTERS[k] == sign) {
                    kind[number] = k;
                    number++;
                    return true;
                }
            }
            return false;
        }
    }

    /** How the line stands at the beginning of a night. */
    private static final class Queue {
        final int[] order = new int[PERSONS_MOST];
        final int[] waited = new int[PERSONS_MOST];
        final int[] wentIn = new int[PERSONS_MOST];
        int size = 0;
        int night = 0;
        int gaveUp = 0;

        void beginWith(int number) {
            size = Math.min(number, PERSONS_MOST);
            night = 0;
            gaveUp = 0;
            for (int i = 0; i < PERSONS_MOST; i++) {
                order[i] = i;
                waited[i] = 0;
                wentIn[i] = NONE;
            }
        }

        void setAs(Queue model) {
            size = model.size;
            night = model.night;
            gaveUp = model.gaveUp;
            System.arraycopy(model.order, 0, order, 0, PERSONS_MOST);
            System.arraycopy(model.waited, 0, waited, 0, PERSONS_MOST);
            System.arraycopy(model.wentIn, 0, wentIn, 0, PERSONS_MOST);
        }

        int whoAt(int place) {
            return place >= 0 && place < size ? order[place] : NONE;
        }

        int placeOf(int i) {
            for (int place = 0; place < size; place++) {
                if (order[place] == i) {
                    return place;
                }
            }
            return NONE;
        }

        int standing() {
            int bits = 0;
            for (int place = 0; place < size; place++) {
                bits |= 1 << order[place];
            }
            return bits;
        }

        void swapPlaces(int one, int other) {
            if (one < 0 || one >= size || other < 0 || other >= size) {
                return;
            }
            int was = order[one];
            order[one] = order[other];
            order[other] = was;
        }

        void swapPersons(int i, int j) {
            swapPlaces(placeOf(i), placeOf(j));
        }

        int asleepAhead(Crowd crowd, int place) {
            int many = 0;
            for (int k = 0; k < place; k++) {
                many += isAsleepAt(crowd, k) ? 1 : 0;
            }
            return many;
        }

        int awakeBehind(Crowd crowd, int place) {
            int many = 0;
            for (int k = place + 1; k < size; k++) {
                many += isAsleepAt(crowd, k) ? 0 : 1;
            }
            return many;
        }

        int stepsOfRam(Crowd crowd, int place) {
            if (!isAsleepAt(crowd, place - 1)) {
                return 0;
            }
            return isAsleepAt(crowd, place - 2) ? 2 : 1;
        }

        int firstAwakeFrom(Crowd crowd, int from) {
            for (int place = from; place < size; place++) {
                int who = whoAt(place);
                if (who != NONE && !crowd.isAsleep(who, night)) {
                    return who;
                }
            }
            return NONE;
        }

        /** A night passes: who went, or NONE. */
        int pass(Crowd crowd, boolean isClear) {
            pushAhead(crowd);
            int who = isClear ? nextToGo(crowd) : NONE;
            if (crowd.has(who)) {
                wentIn[who] = night;
            }
            waitOneMore(crowd, who);
            night++;
            return who;
        }

        private boolean isAsleepAt(Crowd crowd, int place) {
            return crowd.isAsleep(whoAt(place), night);
        }

        // who pushes changes places up to its own alone, so those behind stand as they stood
        private void pushAhead(Crowd crowd) {
            for (int place = 1; place < size; place++) {
                int who = order[place];
                if (!crowd.isOf(who, PUSHER) || !isAsleepAt(crowd, place - 1)) {
                    continue;
                }
                swapPlaces(place, place - 1);
                if (crowd.isOf(who, RAM) && isAsleepAt(crowd, place - 2)) {
                    swapPlaces(place - 1, place - 2);
                }
            }
        }

        private int nextToGo(Crowd crowd) {
            int first = firstAwakeFrom(crowd, 0);
            if (!crowd.isOf(first, LOVER)) {
                return first;
            }
            int other = firstAwakeFrom(crowd, placeOf(first) + 1);
            return other == NONE ? first : other;
        }

        private void waitOneMore(Crowd crowd, int gone) {
            int staying = 0;
            for (int place = 0; place < size; place++) {
                int who = order[place];
                if (who == gone) {
                    continue;
                }
                waited[who]++;
                if (waited[who] >= crowd.patience[who]) {
                    gaveUp |= 1 << who;
                } else {
                    order[staying] = who;
                    staying++;
                }
            }
            size = staying;
        }
    }

    /** Nights and trades that were done; a trade is told by one number of both. */
    private static final class Deeds {
        final int[] deed = new int[DEEDS_MOST];
        int number = 0;

        boolean hasRoomFor(int n) {
            return n <= DEEDS_MOST - number;
        }

        void add(int what) {
            if (number >= 0 && number < DEEDS_MOST) {
                deed[number] = what;
                number++;
            }
        }

        void setAs(Deeds model) {
            number = model.number;
            System.arraycopy(model.deed, 0, deed, 0, DEEDS_MOST);
        }
    }

    /** All rows of some nights, walked as a tree, so that a night is passed once for all rows that begin so. */
    private static final class NightWalk {
        private final Queue[] steps = new Queue[WALK_MOST + 1];
        private final long[] power = new long[WALK_MOST + 1];
        private Crowd crowd = null;
        private Row goers = null;
        private int length = 0;
        private int awaited = NOBODY;
        private int clearWeight = 1;
        private int cloudyWeight = 1;
        private int commonBits = 0;
        int soonestNight = 0;
        long fitting = 0;

        NightWalk() {
            for (int k = 0; k <= WALK_MOST; k++) {
                steps[k] = new Queue();
            }
        }

        void begin(Crowd who, Queue from, int nights) {
            crowd = who;
            length = Math.min(nights, WALK_MOST);
            steps[0].setAs(from);
        }

        void waitFor(int who, int weightOfClear, int weightOfCloudy) {
            awaited = who;
            clearWeight = weightOfClear;
            cloudyWeight = weightOfCloudy;
            soonestNight = length;
            power[0] = 1;
            for (int k = 1; k <= WALK_MOST; k++) {
                power[k] = power[k - 1] * (clearWeight + cloudyWeight);
            }
        }

        long allWays(int nights) {
            return nights >= 0 && nights <= WALK_MOST ? power[nights] : 1;
        }

        /** The sum of the weights of all rows, as often as one waited for goes. */
        long ways() {
            return waysFrom(0);
        }

        private long waysFrom(int depth) {
            if (depth >= length || crowd == null) {
                return 0;
            }
            return waysBy(depth, true, clearWeight) + waysBy(depth, false, cloudyWeight);
        }

        private long waysBy(int depth, boolean isClear, int weight) {
            if (weight == 0) {
                return 0;
            }
            Queue next = steps[depth + 1];
            next.setAs(steps[depth]);
            int who = next.pass(crowd, isClear);
            long ways = 0;
            if (who != NONE && (awaited == ANYBODY || awaited == who)) {
                soonestNight = Math.min(soonestNight, depth);
                ways = allWays(length - depth - 1);
            }
            if (isToGo(next)) {
                ways += waysFrom(depth + 1);
            }
            return weight * ways;
        }

        private boolean isToGo(Queue then) {
            return awaited == ANYBODY ? then.size > 0 : then.placeOf(awaited) != NONE;
        }

        void countFitting(Row wanted) {
            goers = wanted;
            fitting = 0;
            commonBits = (1 << length) - 1;
            fitFrom(0, 0);
        }

        int alwaysClear() {
            return fitting == 0 ? 0 : commonBits;
        }

        private void fitFrom(int depth, int bits) {
            if (crowd == null || goers == null) {
                return;
            }
            if (depth >= length) {
                fitting++;
                commonBits &= bits;
                return;
            }
            for (int clear = 0; clear <= 1; clear++) {
                Queue next = steps[depth + 1];
                next.setAs(steps[depth]);
                if (next.pass(crowd, clear == CLEAR_NIGHT) == goers.places[depth]) {
                    fitFrom(depth + 1, bits | clear << depth);
                }
            }
        }
    }

    /** Trades of two side by side, done ahead of clear nights. */
    private static final class TradeSearch {
        private final Queue[] steps = new Queue[TRADES_MOST + 1];
        private final Queue trial = new Queue();
        private Crowd crowd = null;
        private int nights = 0;
        private int one = NOBODY;
        private int follower = NOBODY;
        private int leastSum = NONE;
        final int[] chosen = new int[TRADES_MOST];

        TradeSearch() {
            for (int k = 0; k <= TRADES_MOST; k++) {
                steps[k] = new Queue();
            }
        }

        void begin(Crowd who, Queue from, int clearNights) {
            crowd = who;
            nights = Math.min(clearNights, TRADE_NIGHTS_MOST);
            leastSum = NONE;
            steps[0].setAs(from);
        }

        /** One is to go; a follower, unless it is NOBODY, in the night behind. */
        void seek(int who, int next) {
            one = who;
            follower = next;
        }

        int fewestTrades() {
            for (int trades = 0; trades <= TRADES_MOST; trades++) {
                if (isReachedBy(0, trades)) {
                    return trades;
                }
            }
            return NONE;
        }

        /** Places go upwards, so the row that is found is the first of its size. */
        private boolean isReachedBy(int depth, int trades) {
            if (depth >= trades || depth >= TRADES_MOST) {
                return isReached(steps[depth]);
            }
            for (int place = 0; place + 1 < steps[depth].size; place++) {
                chosen[depth] = place;
                tradeAt(depth, place);
                if (isReachedBy(depth + 1, trades)) {
                    return true;
                }
            }
            return false;
        }

        int leastPrice() {
            lookForCheaper(0, 0);
            return leastSum;
        }

        private void lookForCheaper(int depth, int sum) {
            if (crowd == null || leastSum != NONE && sum >= leastSum) {
                return;
            }
            if (isReached(steps[depth])) {
                leastSum = sum;
                return;
            }
            if (depth >= TRADES_MOST) {
                return;
            }
            for (int place = 0; place + 1 < steps[depth].size; place++) {
                int ahead = steps[depth].order[place];
                int behind = steps[depth].order[place + 1];
                tradeAt(depth, place);
                lookForCheaper(depth + 1, sum + crowd.price[ahead] + crowd.price[behind]);
            }
        }

        private void tradeAt(int depth, int place) {
            steps[depth + 1].setAs(steps[depth]);
            steps[depth + 1].swapPlaces(place, place + 1);
        }

        private boolean isReached(Queue from) {
            if (crowd == null) {
                return false;
            }
            trial.setAs(from);
            int before = NONE;
            for (int k = 0; k < nights; k++) {
                int who = trial.pass(crowd, true);
                if (follower == NOBODY ? who == one : before == one && who == follower) {
                    return true;
                }
                before = who;
            }
            return false;
        }
    }

    /** A person, who may trade with the one just ahead, against a cloud. */
    private static final class CloudGame {
        // of each night: how it stands ahead of it, and once more behind the trade
        private final Queue[] steps = new Queue[2 * GAME_MOST + 1];
        private Crowd crowd = null;
        private int player = NOBODY;
        private int length = 0;

        CloudGame() {
            for (int k = 0; k <= 2 * GAME_MOST; k++) {
                steps[k] = new Queue();
            }
        }

        void begin(Crowd who, Queue from, int i, int nights) {
            crowd = who;
            player = i;
            length = Math.min(nights, GAME_MOST);
            steps[0].setAs(from);
        }

        boolean isWon() {
            return isWonFrom(0, length / 2);
        }

        private boolean isWonFrom(int depth, int clouds) {
            if (depth >= length || crowd == null) {
                return false;
            }
            int place = steps[2 * depth].placeOf(player);
            if (place == NONE) {
                return false;
            }
            Queue traded = steps[2 * depth + 1];
            traded.setAs(steps[2 * depth]);
            if (isWonBehindTrade(depth, clouds)) {
                return true;
            }
            if (place == 0) {
                return false;
            }
            traded.swapPlaces(place, place - 1);
            return isWonBehindTrade(depth, clouds);
        }

        private boolean isWonBehindTrade(int depth, int clouds) {
            int choices = clouds > 0 ? 2 : 1;
            for (int cloud = 0; cloud < choices; cloud++) {
                Queue next = steps[2 * depth + 2];
                next.setAs(steps[2 * depth + 1]);
                boolean goes = next.pass(crowd, cloud == 0) == player;
                if (!goes && !isWonFrom(depth + 1, clouds - cloud)) {
                    return false;
                }
            }
            return true;
        }
    }

    /** Who remembers whom just ahead, and the orders by which most of that is true. */
    private static final class Memories {
        private final int[][] said = new int[PERSONS_MOST][PERSONS_MOST];
        private int number = 0;
        int mostTrue = -1;
        long ways = 0;

        void begin(int persons) {
            number = Math.min(persons, PERSONS_MOST);
            mostTrue = -1;
            ways = 0;
            for (int i = 0; i < PERSONS_MOST; i++) {
                Arrays.fill(said[i], 0);
            }
        }

        void addPair(int behind, int ahead) {
            if (isPerson(behind) && isPerson(ahead)) {
                said[behind][ahead]++;
            }
        }

        private boolean isPerson(int i) {
            return i >= 0 && i < number;
        }

        void countOrders() {
            standBehind(NOBODY, 0, 0, 0);
        }

        /** Goes through all orders that begin with those who stand, the last of them one told. */
        private void standBehind(int last, int standing, int depth, int trueOnes) {
            if (depth >= number) {
                countOrder(trueOnes);
                return;
            }
            for (int i = 0; i < number; i++) {
                if ((standing >> i & 1) == 0) {
                    int more = isPerson(last) ? said[i][last] : 0;
                    standBehind(i, standing | 1 << i, depth + 1, trueOnes + more);
                }
            }
        }

        private void countOrder(int trueOnes) {
            if (trueOnes > mostTrue) {
                mostTrue = trueOnes;
                ways = 0;
            }
            if (trueOnes == mostTrue) {
                ways++;
            }
        }
    }
}
