import java.util.Arrays;

/** Rows of numbers by days, cut where they changed. What each call answers stands in the document, ../shared/DOC.md. */
public final class LevelBreaks {
    public static final int NONE = -1, BAD = -2, NOT = -3, FULL = -4;

    private static final int NULL = 1, INDEX = 2, CAST = 3, STORE = 4, SIZE = 5;
    private static final int ROWS = 4, DAYS = 40, KINDS = 4, SHEETS = 4, TYPES = 3;
    private static final int LEVEL = 0, MIDDLE = 1, ONE = 3;
    private static final int STEEPEST = 20, MOST_STRETCHES = 6, MOST_DROPS = 2, MOST_LEAST = 10;
    private static final int MOST_TOLD = 200, LAST_TIME = 999, FARTHEST = 1000, GAP = -9999, NO_VALUE = -10000;
    private static final int MOST_BYTES = 100, MOST_ITEMS = 60, MOST_DOUBTED = 16;
    private static final int HIGHEST_LIMIT = 100000, HIGHEST_BEST_LIMIT = 2000, HIGHEST_PRICE = 1000000;
    private static final int LEAST_INT = 1 << 31;
    private static final long LEAST_LONG = 1L << 63, MILLION = 1000000L;
    /** The least number that 1 to 40 all divide: with it below, costs of all stretches are added and compared exactly. */
    private static final long BELOW_ALL = 5342931457063200L;

    private final Ledger ledger = new Ledger();
    private final Points[] now = {new Points(), new Points(), new Points(), new Points()};
    private final Points earlier = new Points();
    private final int[] leastOf = {1, 1, 1, 1};
    private final Cuts cuts = new Cuts();
    private final int[] startDays = new int[MOST_STRETCHES];
    private final Alarms alarms = new Alarms();
    private final Beforehand beforehand = new Beforehand();
    private final Sheet[] sheets = {new Sheet(), new Sheet(), new Sheet(), new Sheet()};
    private int asOfTime = LAST_TIME;
    private int finding = 0;

    public LevelBreaks() {
    }

    // ---- rows

    public int tell(int row, int day, int value, int time) {
        if (!isRow(row) || !isDay(day) || !isValue(value) || !isNextTime(time)) {
            return BAD;
        }
        if (ledger.size >= MOST_TOLD) {
            return FULL;
        }
        ledger.add(row, day, value, time);
        refresh(row);
        return ledger.size;
    }

    public int read(int s, int row, int day, int time) {
        if (!isSheet(s) || !isRow(row) || !isDay(day) || !isNextTime(time)) {
            return BAD;
        }
        Sheet sheet = sheets[s];
        if (sheet.isLost()) {
            return found(NULL);
        }
        int told = 0;
        while (told < sheet.size && day + told < DAYS && isValue(sheet.item[told]) && ledger.size < MOST_TOLD) {
            ledger.add(row, day + told, sheet.item[told], time);
            told++;
        }
        refresh(row);
        return told;
    }

    public int asOf(int time) {
        if (!isWithin(time, 0, LAST_TIME)) {
            return BAD;
        }
        int before = asOfTime;
        asOfTime = time;
        for (int row = 0; row < ROWS; row++) {
            refresh(row);
        }
        return before;
    }

    public int least(int row, int m) {
        if (!isRow(row) || !isWithin(m, 1, MOST_LEAST)) {
            return BAD;
        }
        int before = leastOf[row];
        leastOf[row] = m;
        return before;
    }

    public int value(int row, int day) {
        return isRow(row) && isDay(day) ? now[row].onDay[day] : NO_VALUE;
    }

    public int many(int row) {
        return isRow(row) ? now[row].size : BAD;
    }

    // ---- costs, cuts

    public long cost(int row, int kind, int a, int b, int what) {
        if (!isRow(row) || !isKind(kind) || !isWithin(what, 0, 1)) {
            return asLong(BAD);
        }
        Points points = now[row];
        if (a < 0 || b < a || b >= points.size) {
            return asLong(BAD);
        }
        Measure measure = cuts.measureOver(points, kind, a, b);
        long above = measure.above(points, NONE, NONE);
        long below = measure.below(0);
        long divisor = Cuts.commonDivisor(above, below);
        if (divisor < 1) {
            return asLong(BAD);
        }
        return what == 0 ? above / divisor : below / divisor;
    }

    public long best(int row, int kind, int k, int what) {
        if (!isRow(row) || !isKind(kind) || !isStretches(k) || !isWithin(what, 0, 1)) {
            return asLong(BAD);
        }
        if (!cutRow(row, kind, k)) {
            return asLong(NOT);
        }
        return what == 0 ? cuts.bestAbove(k) : cuts.bestBelow(k);
    }

    public int cut(int row, int kind, int k, int i) {
        if (!isRow(row) || !isKind(kind) || !isStretches(k) || i < 0 || i >= k) {
            return BAD;
        }
        if (!cutRow(row, kind, k)) {
            return NOT;
        }
        return cuts.startDay(now[row], i);
    }

    public int priced(int row, int kind, int price) {
        if (!isRow(row) || !isKind(kind) || !isWithin(price, 0, HIGHEST_PRICE)) {
            return BAD;
        }
        cutRow(row, kind, MOST_STRETCHES);
        return cuts.stretchesWorth(price);
    }

    public int near(int row, int kind, int k, int p) {
        if (!isRow(row) || !isKind(kind) || !isWithin(k, 2, 3) || !isWithin(p, 0, 1000)) {
            return BAD;
        }
        if (!cutRow(row, kind, k)) {
            return NOT;
        }
        return cuts.countWithin(now[row], kind, k, leastOf[row], p);
    }

    public int common(int rows, int kind, int k) {
        if (!isRowSet(rows) || !isCommonKind(kind) || !isStretches(k)) {
            return BAD;
        }
        if (!cuts.cutTogether(now, leastOf, rows, kind, k)) {
            return NOT;
        }
        return (int) cuts.bestAbove(k);
    }

    public int shared(int rows, int kind, int k, int i) {
        if (!isRowSet(rows) || !isCommonKind(kind) || !isStretches(k) || i < 0 || i >= k) {
            return BAD;
        }
        if (!cuts.cutTogether(now, leastOf, rows, kind, k)) {
            return NOT;
        }
        return cuts.start[i];
    }

    public int since(int row, int kind, int k) {
        if (!isRow(row) || !isKind(kind) || !isStretches(k)) {
            return BAD;
        }
        if (!cutRow(row, kind, k)) {
            return NOT;
        }
        keepStartDays(now[row], k);
        int told = ledger.toldUpTo(asOfTime);
        int time = asOfTime;
        for (int change = 0; change < MOST_TOLD; change++) {
            int last = ledger.lastOf(row, told);
            if (last == NONE) {
                return time;
            }
            time = ledger.time[last];
            told = ledger.toldUpTo(time - 1);
            ledger.load(earlier, row, told);
            if (!cuts.cutPoints(earlier, kind, k, leastOf[row], 0) || !startsAsKept(earlier, k)) {
                return time;
            }
        }
        return time;
    }

    // ---- chance

    public int doubt(int row, int k, int i) {
        if (!isRow(row) || !isStretches(k) || i < 1 || i >= k) {
            return BAD;
        }
        if (!cutRow(row, LEVEL, k)) {
            return NOT;
        }
        Points points = now[row];
        int first = cuts.start[i - 1];
        int middle = cuts.start[i];
        int end = i + 1 < k ? cuts.start[i + 1] : points.size;
        if (end - first > MOST_DOUBTED) {
            return FULL;
        }
        return Chance.ofSplit(points, first, middle, end);
    }

    public int simpler(int row, int kind, int k, int q, int i) {
        if (!isRow(row) || !isKind(kind) || !isStretches(k) || !isWithin(q, 1, MOST_DROPS) || i < 0 || i >= q) {
            return BAD;
        }
        if (!cuts.cutPoints(now[row], kind, k, leastOf[row], q)) {
            return NOT;
        }
        return now[row].day[cuts.dropped(k, i)];
    }

    public int together(int row, int other, int kind, int k, int r, int what) {
        if (!isRow(row) || !isRow(other) || row == other || !isKind(kind)) {
            return BAD;
        }
        if (!isWithin(k, 2, MOST_STRETCHES) || !isWithin(r, 0, 9) || !isWithin(what, 0, 1)) {
            return BAD;
        }
        if (!cutRow(row, kind, k)) {
            return NOT;
        }
        keepStartDays(now[row], k);
        if (!cutRow(other, kind, k)) {
            return NOT;
        }
        int hits = 0;
        for (int i = 1; i < k; i++) {
            if (cuts.startsNear(now[other], k, startDays[i], r)) {
                hits++;
            }
        }
        return what == 0 ? hits : Chance.ofHits(daysNear(now[other], k, r), k - 1, hits);
    }

    // ---- alarms

    public int alarm(int row, int target, int slack, int limit, int way, int day) {
        if (!isWatch(row, target, slack, way) || !isLimit(limit) || day != NONE && !isDay(day)) {
            return BAD;
        }
        alarms.watch(now[row], target, slack, limit, way);
        return day == NONE ? alarms.countBefore(DAYS) : alarms.rung[day];
    }

    public int soon(int row, int target, int slack, int limit, int way, int day, int what) {
        if (!isWatch(row, target, slack, way) || !isLimit(limit) || !isDay(day) || !isWithin(what, 0, 1)) {
            return BAD;
        }
        alarms.watch(now[row], target, slack, limit, way);
        return what == 0 ? alarms.daysTillFirst(day) : alarms.countBefore(day);
    }

    public int limit(int row, int target, int slack, int way, int day) {
        if (!isWatch(row, target, slack, way) || !isDay(day)) {
            return BAD;
        }
        return Alarms.bestLimit(now[row], target, slack, way, day);
    }

    // ---- beforehand

    public int type(int b) {
        if (!isWithin(b, 0, 255)) {
            return BAD;
        }
        if (beforehand.size >= MOST_BYTES) {
            return FULL;
        }
        beforehand.text[beforehand.size] = b;
        beforehand.size++;
        return beforehand.size;
    }

    public int wipe() {
        int before = beforehand.size;
        beforehand.size = 0;
        return before;
    }

    public int fault() {
        return beforehand.readText();
    }

    public int missed(int row, int what) {
        if (!isRow(row) || !isWithin(what, 0, 1)) {
            return BAD;
        }
        if (beforehand.readText() != NONE) {
            return NOT;
        }
        return what == 0 ? beforehand.offTogether(now[row]) : beforehand.worstDay(now[row]);
    }

    // ---- sheets

    public int sheet(int s, int type, int n) {
        if (!isSheet(s) || !isType(type) || n > MOST_ITEMS) {
            return BAD;
        }
        if (n < 0) {
            return found(SIZE);
        }
        sheets[s].renew(type, n);
        return n;
    }

    public int lose(int s) {
        if (!isSheet(s)) {
            return BAD;
        }
        if (sheets[s].isLost()) {
            return found(NULL);
        }
        int before = sheets[s].size;
        sheets[s].size = NONE;
        return before;
    }

    public int put(int s, int type, int i, int v) {
        if (!isSheet(s) || !isType(type)) {
            return BAD;
        }
        int why = sheets[s].findingAt(type, i);
        if (why != 0) {
            return found(why);
        }
        sheets[s].store(i, v);
        return 1;
    }

    public int get(int s, int type, int i) {
        if (!isSheet(s) || !isType(type)) {
            return LEAST_INT;
        }
        int why = sheets[s].findingAt(type, i);
        if (why != 0) {
            found(why);
            return LEAST_INT;
        }
        return sheets[s].item[i];
    }

    public int copy(int s, int i, int t, int j, int n) {
        if (!isSheet(s) || !isSheet(t)) {
            return BAD;
        }
        Sheet from = sheets[s];
        Sheet to = sheets[t];
        if (from.isLost() || to.isLost()) {
            return found(NULL);
        }
        if (from.kind != to.kind) {
            return found(STORE);
        }
        if (!from.has(i, n) || !to.has(j, n)) {
            return found(INDEX);
        }
        System.arraycopy(from.item, i, to.item, j, n);
        return 1;
    }

    public int write(int row, int s) {
        if (!isRow(row) || !isSheet(s)) {
            return BAD;
        }
        Sheet sheet = sheets[s];
        if (sheet.isLost()) {
            return found(NULL);
        }
        int written = Math.min(sheet.size, DAYS);
        for (int day = 0; day < written; day++) {
            sheet.store(day, now[row].onDay[day]);
        }
        return written;
    }

    public int count(int what) {
        switch (what) {
            case 0:
            case 1:
            case 2:
            case 3:
                return now[what].size;
            case 4:
                return ledger.size;
            case 5:
                return asOfTime;
            case 6:
                return ledger.lastTime();
            case 7:
                return beforehand.size;
            case 8:
                return finding;
            default:
                return BAD;
        }
    }

    public long digest() {
        long h = 17;
        for (int what = 0; what <= 7; what++) {
            h = 31 * h + count(what);
        }
        for (int row = 0; row < ROWS; row++) {
            for (int day = 0; day < DAYS; day++) {
                h = 31 * h + now[row].onDay[day];
            }
        }
        for (int row = 0; row < ROWS; row++) {
            for (int kind = 0; kind < KINDS; kind++) {
                boolean stands = cutRow(row, kind, 2);
                h = 31 * h + (stands ? cuts.bestAbove(2) : NOT);
                h = 31 * h + (stands ? cuts.bestBelow(2) : NOT);
            }
        }
        return 31 * h + beforehand.readText();
    }

    private static boolean isWithin(int number, int from, int to) {
        return number >= from && number <= to;
    }

    private static boolean isRow(int row) {
        return isWithin(row, 0, ROWS - 1);
    }

    private static boolean isDay(int day) {
        return isWithin(day, 0, DAYS - 1);
    }

    private static boolean isValue(int value) {
        return value == GAP || isWithin(value, -FARTHEST, FARTHEST);
    }

    private static boolean isKind(int kind) {
        return isWithin(kind, 0, KINDS - 1);
    }

    private static boolean isCommonKind(int kind) {
        return kind == MIDDLE || kind == ONE;
    }

    private static boolean isStretches(int k) {
        return isWithin(k, 1, MOST_STRETCHES);
    }

    private static boolean isRowSet(int rows) {
        return isWithin(rows, 1, (1 << ROWS) - 1);
    }

    private static boolean isSheet(int s) {
        return isWithin(s, 0, SHEETS - 1);
    }

    private static boolean isType(int type) {
        return isWithin(type, 0, TYPES - 1);
    }

    private static boolean isLimit(int limit) {
        return isWithin(limit, 1, HIGHEST_LIMIT);
    }

    private static boolean isWatch(int row, int target, int slack, int way) {
        return isRow(row) && isWithin(target, -FARTHEST, FARTHEST) && isWithin(slack, 0, FARTHEST)
                && isWithin(way, 0, 1);
    }

    private boolean isNextTime(int time) {
        return isWithin(time, ledger.lastTime(), LAST_TIME);
    }

    private static long asLong(int refusal) {
        return LEAST_LONG - refusal;
    }

    private int found(int number) {
        finding = number;
        return -10 - number;
    }

    private void refresh(int row) {
        ledger.load(now[row], row, ledger.toldUpTo(asOfTime));
    }

    private boolean cutRow(int row, int kind, int k) {
        return cuts.cutPoints(now[row], kind, k, leastOf[row], 0);
    }

    private void keepStartDays(Points points, int k) {
        for (int i = 0; i < k; i++) {
            startDays[i] = cuts.startDay(points, i);
        }
    }

    private boolean startsAsKept(Points points, int k) {
        for (int i = 0; i < k; i++) {
            if (startDays[i] != cuts.startDay(points, i)) {
                return false;
            }
        }
        return true;
    }

    private int daysNear(Points points, int k, int r) {
        int days = 0;
        for (int day = 1; day < DAYS; day++) {
            if (cuts.startsNear(points, k, day, r)) {
                days++;
            }
        }
        return days;
    }

    /** All that was told, in the order in which it was told. */
    private static final class Ledger {
        final int[] row = new int[MOST_TOLD];
        final int[] day = new int[MOST_TOLD];
        final int[] worth = new int[MOST_TOLD];
        final int[] time = new int[MOST_TOLD];
        int size = 0;

        void add(int ofRow, int onDay, int told, int atTime) {
            if (size >= MOST_TOLD) {
                return;
            }
            row[size] = ofRow;
            day[size] = onDay;
            worth[size] = told;
            time[size] = atTime;
            size++;
        }

        int lastTime() {
            return size == 0 ? 0 : time[size - 1];
        }

        /** TIMES never go back, so what was told up to one is always the first so many. */
        int toldUpTo(int atTime) {
            int told = size;
            while (told > 0 && time[told - 1] > atTime) {
                told--;
            }
            return told;
        }

        int lastOf(int ofRow, int told) {
            int last = told - 1;
            while (last >= 0 && row[last] != ofRow) {
                last--;
            }
            return last >= 0 ? last : NONE;
        }

        void load(Points points, int ofRow, int told) {
            Arrays.fill(points.onDay, GAP);
            for (int x = 0; x < told; x++) {
                if (row[x] == ofRow) {
                    points.onDay[day[x]] = worth[x];
                }
            }
            points.gather();
        }
    }

    /** A ROW as it was known at a TIME. */
    private static final class Points {
        final int[] onDay = new int[DAYS];
        final int[] day = new int[DAYS];
        final int[] worth = new int[DAYS];
        /** For each POINT the first one with the same VALUE, so that like VALUES can be counted in a short array. */
        final int[] firstLike = new int[DAYS];
        int size = 0;

        Points() {
            for (int d = 0; d < DAYS; d++) {
                onDay[d] = GAP;
            }
        }

        void gather() {
            size = 0;
            for (int d = 0; d < DAYS; d++) {
                if (onDay[d] != GAP) {
                    day[size] = d;
                    worth[size] = onDay[d];
                    firstLike[size] = findLike(size);
                    size++;
                }
            }
        }

        private int findLike(int point) {
            for (int x = 0; x < point; x++) {
                if (worth[x] == worth[point]) {
                    return x;
                }
            }
            return point;
        }

        int firstFrom(int fromDay) {
            int point = 0;
            while (point < size && day[point] < fromDay) {
                point++;
            }
            return point;
        }
    }

    /** The COST of one STRETCH, which grows by one POINT after another. */
    private abstract static class Measure {
        int size = 0;

        abstract void restart();

        abstract void extend(Points points, int point);

        /** The COST without the POINTS x and y (NONE: without no such one), times below() of so many left out. */
        abstract long above(Points points, int x, int y);

        abstract int below(int leftOut);
    }

    /** LEVEL (steepest is 0) and SLOPE. */
    private static final class Sums extends Measure {
        private final long steepest;
        private long values, squares, days, daySquares, products;

        Sums(int steepest) {
            this.steepest = steepest;
        }

        void restart() {
            size = 0;
            values = 0;
            squares = 0;
            days = 0;
            daySquares = 0;
            products = 0;
        }

        void extend(Points points, int point) {
            long v = points.worth[point];
            long d = points.day[point];
            size++;
            values += v;
            squares += v * v;
            days += d;
            daySquares += d * d;
            products += v * d;
        }

        long above(Points points, int x, int y) {
            long n = size - (x == NONE ? 0 : 1) - (y == NONE ? 0 : 1);
            long vx = x == NONE ? 0 : points.worth[x];
            long vy = y == NONE ? 0 : points.worth[y];
            long v = values - vx - vy;
            long level = n * (squares - vx * vx - vy * vy) - v * v;
            if (steepest == 0) {
                return level;
            }
            long dx = x == NONE ? 0 : points.day[x];
            long dy = y == NONE ? 0 : points.day[y];
            long d = days - dx - dy;
            long spread = n * (daySquares - dx * dx - dy * dy) - d * d;
            long slant = n * (products - vx * dx - vy * dy) - v * d;
            return level + bestTilt(spread, slant);
        }

        int below(int leftOut) {
            return size - leftOut;
        }

        /** What g adds to LEVEL falls and then rises as g grows: the whole g nearest to its lowest place is best. */
        private long bestTilt(long spread, long slant) {
            if (spread <= 0) {
                return 0;
            }
            long nearest = Math.floorDiv(2 * slant + spread, 2 * spread);
            long g = Math.max(-steepest, Math.min(steepest, nearest));
            return g * g * spread - 2 * g * slant;
        }
    }

    /** MIDDLE: the VALUES are kept in order. */
    private static final class Middle extends Measure {
        private static final int ABOVE_ALL = FARTHEST + 1;
        private final int[] ordered = new int[DAYS];
        private long total;

        void restart() {
            size = 0;
            total = 0;
        }

        /** One more VALUE adds to the COST only what it lies outside the middle ones that were there before. */
        void extend(Points points, int point) {
            if (size >= DAYS) {
                return;
            }
            int v = points.worth[point];
            total += outside(v, size, ABOVE_ALL, ABOVE_ALL);
            int at = size;
            while (at > 0 && ordered[at - 1] > v) {
                ordered[at] = ordered[at - 1];
                at--;
            }
            ordered[at] = v;
            size++;
        }

        long above(Points points, int x, int y) {
            if (x == NONE) {
                return total;
            }
            int v = points.worth[x];
            long withoutX = total - outside(v, size - 1, v, ABOVE_ALL);
            if (y == NONE) {
                return withoutX;
            }
            int w = points.worth[y];
            return withoutX - outside(w, size - 2, Math.min(v, w), Math.max(v, w));
        }

        int below(int leftOut) {
            return 1;
        }

        /** How far v lies outside the middle ones of the so many that are left without the VALUES lower and higher. */
        private int outside(int v, int left, int lower, int higher) {
            if (left < 1) {
                return 0;
            }
            int from = orderedWithout((left - 1) / 2, lower, higher);
            int to = orderedWithout(left / 2, lower, higher);
            return Math.max(0, Math.max(from - v, v - to));
        }

        private int orderedWithout(int place, int lower, int higher) {
            int at = place;
            if (lower <= ordered[at]) {
                at++;
            }
            if (at < DAYS && higher <= ordered[at]) {
                at++;
            }
            return at < DAYS ? ordered[at] : lower;
        }
    }

    /** ONE: how often each VALUE is there, and how many VALUES are there so often. */
    private static final class One extends Measure {
        private final int[] often = new int[DAYS];
        private final int[] valuesSoOften = new int[DAYS + 1];
        private int most;

        void restart() {
            size = 0;
            most = 0;
            Arrays.fill(often, 0);
            Arrays.fill(valuesSoOften, 0);
        }

        void extend(Points points, int point) {
            if (size >= DAYS) {
                return;
            }
            int like = points.firstLike[point];
            int times = often[like] + 1;
            valuesSoOften[times - 1]--;
            valuesSoOften[times]++;
            often[like] = times;
            most = Math.max(most, times);
            size++;
        }

        long above(Points points, int x, int y) {
            if (x == NONE) {
                return size - most;
            }
            int likeX = points.firstLike[x];
            int likeY = y == NONE ? NONE : points.firstLike[y];
            int left = size - (y == NONE ? 1 : 2);
            return left - (likeX == likeY ? mostWithoutTwoOf(likeX) : mostWithout(likeX, likeY));
        }

        int below(int leftOut) {
            return 1;
        }

        private int mostWithout(int likeX, int likeY) {
            int fewer = often[likeX] == most ? 1 : 0;
            if (likeY != NONE && often[likeY] == most) {
                fewer++;
            }
            return valuesSoOften[most] > fewer ? most : most - 1;
        }

        private int mostWithoutTwoOf(int like) {
            if (most < 2 || often[like] < most || valuesSoOften[most] > 1) {
                return most;
            }
            return valuesSoOften[most - 1] > 0 ? most - 1 : most - 2;
        }
    }

    /**
     * The best CUTS, found from behind: for each place the least COST of all from there on into so many STRETCHES
     * with so many POINTS left out. A COST is kept as its whole part and the rest times BELOW_ALL.
     */
    private static final class Cuts {
        private static final int PLACES = DAYS + 1, TABLE = (MOST_STRETCHES + 1) * PLACES;
        private final Measure[] measures = {new Sums(0), new Middle(), new Sums(STEEPEST), new One()};
        private final long[] whole = new long[(MOST_DROPS + 1) * TABLE];
        private final long[] rest = new long[(MOST_DROPS + 1) * TABLE];
        /** The POINTS left out, as one number whose order is that of their DAYS. */
        private final int[] drop = new int[(MOST_DROPS + 1) * TABLE];
        private final int[] next = new int[(MOST_DROPS + 1) * TABLE];
        private final long[] headWhole = new long[DAYS];
        private final long[] headRest = new long[DAYS];
        private final long[] daysCost = new long[DAYS];
        private int stretches, drops;
        private long boundWhole, boundRest;
        /** Where the STRETCHES of the CUTS that were made last begin. */
        final int[] start = new int[MOST_STRETCHES];

        Measure measureOver(Points points, int kind, int a, int b) {
            Measure measure = measures[kind];
            measure.restart();
            for (int point = a; point <= b; point++) {
                measure.extend(points, point);
            }
            return measure;
        }

        /** Whether there are CUTS of the POINTS (without q of them) into k STRETCHES. */
        boolean cutPoints(Points points, int kind, int k, int leastSize, int q) {
            begin(points.size, k, q);
            Measure measure = measures[kind];
            int last = points.size - 1;
            for (int from = last; from >= 0; from--) {
                measure.restart();
                for (int to = from; to <= last; to++) {
                    measure.extend(points, to);
                    // into one or two, no STRETCH lies between others
                    if (k > 2 || from == 0 || to == last) {
                        offerWhole(points, measure, from, to, leastSize);
                        offerWithoutOne(points, measure, from, to, leastSize);
                        offerWithoutTwo(points, measure, from, to, leastSize);
                    }
                }
            }
            return trace(k);
        }

        /** Whether there are COMMON CUTS of the ROWS; places are DAYS here, not POINTS. */
        boolean cutTogether(Points[] rows, int[] leastSizes, int chosen, int kind, int k) {
            begin(DAYS, k, 0);
            for (int from = DAYS - 1; from >= 0; from--) {
                Arrays.fill(daysCost, 0);
                for (int row = 0; row < rows.length && row < leastSizes.length; row++) {
                    if ((chosen >> row & 1) == 1) {
                        addDaysCost(rows[row], measures[kind], from, leastSizes[row]);
                    }
                }
                for (int to = from; to < DAYS; to++) {
                    if (daysCost[to] != NONE) {
                        offer(from, to, 0, daysCost[to], 1, 0);
                    }
                }
            }
            return trace(k);
        }

        private void addDaysCost(Points points, Measure measure, int from, int leastSize) {
            measure.restart();
            int point = points.firstFrom(from);
            for (int to = from; to < DAYS; to++) {
                if (point < points.size && points.day[point] == to) {
                    measure.extend(points, point);
                    point++;
                }
                boolean may = daysCost[to] != NONE && measure.size >= leastSize;
                daysCost[to] = may ? daysCost[to] + measure.above(points, NONE, NONE) : NONE;
            }
        }

        private void begin(int size, int k, int q) {
            stretches = k;
            drops = q;
            Arrays.fill(whole, 0, (q + 1) * TABLE, NONE);
            int end = at(0, 0, size);
            whole[end] = 0;
            rest[end] = 0;
            drop[end] = 0;
        }

        private static int at(int leftOut, int k, int place) {
            return leftOut * TABLE + k * PLACES + place;
        }

        private void offerWhole(Points points, Measure measure, int from, int to, int leastSize) {
            if (measure.size >= leastSize) {
                offer(from, to, 0, measure.above(points, NONE, NONE), measure.below(0), 0);
            }
        }

        private void offerWithoutOne(Points points, Measure measure, int from, int to, int leastSize) {
            if (drops < 1 || measure.size - 1 < leastSize) {
                return;
            }
            long leastAbove = NONE;
            int which = from;
            for (int x = from; x <= to; x++) {
                long above = measure.above(points, x, NONE);
                if (leastAbove == NONE || above < leastAbove) {
                    leastAbove = above;
                    which = x;
                }
            }
            offer(from, to, 1, leastAbove, measure.below(1), which);
        }

        private void offerWithoutTwo(Points points, Measure measure, int from, int to, int leastSize) {
            if (drops < 2 || measure.size - 2 < leastSize) {
                return;
            }
            long leastAbove = NONE;
            int which = from;
            for (int x = from; x < to; x++) {
                for (int y = x + 1; y <= to; y++) {
                    long above = measure.above(points, x, y);
                    if (leastAbove == NONE || above < leastAbove) {
                        leastAbove = above;
                        which = x * DAYS + y;
                    }
                }
            }
            offer(from, to, 2, leastAbove, measure.below(2), which);
        }

        /** A STRETCH, without so many POINTS, ahead of all that can stand behind it. */
        private void offer(int from, int to, int leftOut, long above, int below, int which) {
            if (below < 1) {
                return;
            }
            long w = above / below;
            long r = above % below * (BELOW_ALL / below);
            // more STRETCHES than these are no use: one at least is still to come ahead
            int most = from == 0 ? stretches : stretches - 1;
            int shift = 1;
            for (int behind = 0; behind + leftOut <= drops; behind++) {
                for (int k = 1; k <= most; k++) {
                    int tail = at(behind, k - 1, to + 1);
                    if (whole[tail] != NONE) {
                        keepIfBetter(at(behind + leftOut, k, from), tail, w, r, which * shift, to + 1);
                    }
                }
                shift *= DAYS;
            }
        }

        private void keepIfBetter(int here, int tail, long w, long r, int which, int nextStart) {
            long newWhole = w + whole[tail];
            long newRest = r + rest[tail];
            if (newRest >= BELOW_ALL) {
                newRest -= BELOW_ALL;
                newWhole++;
            }
            int newDrop = which + drop[tail];
            if (whole[here] != NONE && !isBetter(here, newWhole, newRest, newDrop)) {
                return;
            }
            whole[here] = newWhole;
            rest[here] = newRest;
            drop[here] = newDrop;
            next[here] = nextStart;
        }

        /** Of like ones the first stays: STRETCHES are offered by their ends, so it has the least DAYS. */
        private boolean isBetter(int here, long newWhole, long newRest, int newDrop) {
            if (newWhole != whole[here]) {
                return newWhole < whole[here];
            }
            if (newRest != rest[here]) {
                return newRest < rest[here];
            }
            return newDrop < drop[here];
        }

        private boolean trace(int k) {
            if (whole[at(drops, k, 0)] == NONE) {
                return false;
            }
            if (drops > 0) {
                return true;
            }
            int place = 0;
            for (int i = 0; i < k; i++) {
                start[i] = place;
                place = next[at(0, k - i, place)];
            }
            return true;
        }

        int startDay(Points points, int i) {
            return points.day[start[i]];
        }

        boolean startsNear(Points points, int k, int day, int r) {
            for (int i = 1; i < k; i++) {
                if (Math.abs(startDay(points, i) - day) <= r) {
                    return true;
                }
            }
            return false;
        }

        /** The POINT i of those without which the CUTS were made. */
        int dropped(int k, int i) {
            int which = drop[at(drops, k, 0)];
            return drops == 2 && i == 0 ? which / DAYS : which % DAYS;
        }

        long bestBelow(int k) {
            long divisor = commonDivisor(rest[at(0, k, 0)], BELOW_ALL);
            return divisor < 1 ? 1 : BELOW_ALL / divisor;
        }

        long bestAbove(int k) {
            int best = at(0, k, 0);
            long divisor = commonDivisor(rest[best], BELOW_ALL);
            return divisor < 1 ? whole[best] : whole[best] * (BELOW_ALL / divisor) + rest[best] / divisor;
        }

        static long commonDivisor(long a, long b) {
            long big = a;
            long small = b;
            for (int step = 0; step < 200 && small != 0; step++) {
                long left = big % small;
                big = small;
                small = left;
            }
            return big;
        }

        /** PRICED, of the CUTS into up to six that were made last; NOT, where there are none. */
        int stretchesWorth(int price) {
            int worth = NOT;
            long leastWhole = 0;
            long leastRest = 0;
            for (int k = 1; k <= stretches; k++) {
                int best = at(0, k, 0);
                if (whole[best] == NONE) {
                    break;
                }
                long w = whole[best] + (long) price * (k - 1);
                if (worth == NOT || w < leastWhole || w == leastWhole && rest[best] < leastRest) {
                    worth = k;
                    leastWhole = w;
                    leastRest = rest[best];
                }
            }
            return worth;
        }

        /** NEAR, of the CUTS into two or three that were made last. */
        int countWithin(Points points, int kind, int k, int leastSize, int percent) {
            setBound(k, percent);
            Measure measure = measures[kind];
            measureHeads(points, measure, leastSize);
            int n = 0;
            for (int from = 1; from < points.size; from++) {
                if (headWhole[from - 1] == NONE) {
                    continue;
                }
                n += k == 2 ? countTail(headWhole[from - 1], headRest[from - 1], from)
                        : countMiddles(points, measure, from, leastSize);
            }
            return n;
        }

        /** A hundred times the COST that CUTS may have, so that a hundredth stays exact. */
        private void setBound(int k, int percent) {
            int best = at(0, k, 0);
            long hundredths = (100 + percent) * rest[best];
            boundWhole = (100 + percent) * whole[best] + hundredths / BELOW_ALL;
            boundRest = hundredths % BELOW_ALL;
        }

        private void measureHeads(Points points, Measure measure, int leastSize) {
            measure.restart();
            for (int to = 0; to < points.size; to++) {
                measure.extend(points, to);
                long above = measure.above(points, NONE, NONE);
                int below = measure.below(0);
                boolean may = measure.size >= leastSize && below > 0;
                headWhole[to] = may ? above / below : NONE;
                headRest[to] = may ? above % below * (BELOW_ALL / below) : 0;
            }
        }

        private int countMiddles(Points points, Measure measure, int from, int leastSize) {
            int n = 0;
            measure.restart();
            for (int to = from; to < points.size - 1; to++) {
                measure.extend(points, to);
                int below = measure.below(0);
                if (measure.size >= leastSize && below > 0) {
                    long above = measure.above(points, NONE, NONE);
                    long r = headRest[from - 1] + above % below * (BELOW_ALL / below);
                    n += countTail(headWhole[from - 1] + above / below, r, to + 1);
                }
            }
            return n;
        }

        /** 1, if with one more STRETCH from a place to the end the COST is within the bound; else 0. */
        private int countTail(long headW, long headR, int from) {
            int tail = at(0, 1, from);
            if (whole[tail] == NONE) {
                return 0;
            }
            long hundredths = 100 * (headR + rest[tail]);
            long w = 100 * (headW + whole[tail]) + hundredths / BELOW_ALL;
            long r = hundredths % BELOW_ALL;
            return w < boundWhole || w == boundWhole && r <= boundRest ? 1 : 0;
        }
    }

    /** Shares of all choices. */
    private static final class Chance {
        private Chance() {
        }

        /** DOUBT of the cut between POINTS first to middle less 1 and middle to end less 1. */
        static int ofSplit(Points points, int first, int middle, int end) {
            int size = end - first;
            int chosen = middle - first;
            long all = 0;
            long ofFirst = 0;
            for (int x = first; x < end; x++) {
                all += points.worth[x];
                ofFirst += x < middle ? points.worth[x] : 0;
            }
            long far = Math.abs(size * ofFirst - chosen * all);
            return millionths(waysAsFar(points, first, end, chosen, -chosen * all, far, size), ways(size, chosen));
        }

        /** How many choices of so many POINTS, each adding its VALUE times scale, come as far from 0. */
        private static long waysAsFar(Points points, int at, int end, int left, long sum, long far, int scale) {
            if (left == 0) {
                return Math.abs(sum) >= far ? 1 : 0;
            }
            if (end - at < left || end - at > MOST_DOUBTED) {
                return 0;
            }
            long with = (long) scale * points.worth[at];
            return waysAsFar(points, at + 1, end, left - 1, sum + with, far, scale)
                    + waysAsFar(points, at + 1, end, left, sum, far, scale);
        }

        /** CHANCE: that of so many cuts at least hits lie on the near DAYS. */
        static int ofHits(int nearDays, int cutDays, int hits) {
            int days = DAYS - 1;
            long enough = 0;
            for (int h = hits; h <= cutDays; h++) {
                enough += ways(nearDays, h) * ways(days - nearDays, cutDays - h);
            }
            return millionths(enough, ways(days, cutDays));
        }

        /** How many ways there are to choose so many; each step's product is divisible, so nothing is lost. */
        private static long ways(int size, int chosen) {
            if (chosen < 0 || chosen > size) {
                return 0;
            }
            long n = 1;
            for (int x = 1; x <= chosen; x++) {
                n = n * (size - chosen + x) / x;
            }
            return n;
        }

        private static int millionths(long part, long all) {
            return all < 1 ? 0 : (int) (part * MILLION / all);
        }
    }

    /** The DAYS of the ALARMS that were watched for last. */
    private static final class Alarms {
        final int[] rung = new int[DAYS];

        void watch(Points points, int target, int slack, int bar, int way) {
            Arrays.fill(rung, 0);
            int sum = 0;
            for (int x = 0; x < points.size; x++) {
                sum = sumWith(sum, points.worth[x], target, slack, way);
                if (sum >= bar) {
                    rung[points.day[x]] = 1;
                    sum = 0;
                }
            }
        }

        private static int sumWith(int sum, int worth, int target, int slack, int way) {
            int over = way == 0 ? worth - target : target - worth;
            return Math.max(0, sum + over - slack);
        }

        int countBefore(int day) {
            int n = 0;
            for (int d = 0; d < day && d < DAYS; d++) {
                n += rung[d];
            }
            return n;
        }

        int daysTillFirst(int day) {
            for (int d = day; d < DAYS; d++) {
                if (rung[d] == 1) {
                    return d - day;
                }
            }
            return NONE;
        }

        /** Up to the first ALARM the SUM runs alike for all LIMITS, so the least one above all SUMS before is best. */
        static int bestLimit(Points points, int target, int slack, int way, int day) {
            int sum = 0;
            int highestBefore = 0;
            int highestSince = 0;
            for (int x = 0; x < points.size; x++) {
                sum = sumWith(sum, points.worth[x], target, slack, way);
                if (points.day[x] < day) {
                    highestBefore = Math.max(highestBefore, sum);
                } else {
                    highestSince = Math.max(highestSince, sum);
                }
            }
            int bar = highestBefore + 1;
            return bar <= highestSince && bar <= HIGHEST_BEST_LIMIT ? bar : NONE;
        }
    }

    /** The text that is TOLD BEFOREHAND, and its parts once it is read. */
    private static final class Beforehand {
        private static final int FIGURES_OF_DAY = 2, FIGURES_OF_NUMBER = 4;
        final int[] text = new int[MOST_BYTES];
        int size = 0;
        private final int[] partDay = new int[DAYS];
        private final int[] partMiddle = new int[DAYS];
        private final int[] partSpread = new int[DAYS];
        private int parts, at, wrong;

        /** The FAULT, or NONE. */
        int readText() {
            at = 0;
            parts = 0;
            wrong = NONE;
            // each part has a later DAY, so one more than there are DAYS is always wrong
            for (int part = 0; part <= DAYS; part++) {
                readPart();
                if (wrong != NONE || at >= size) {
                    return wrong;
                }
                if (byteHere() != ';') {
                    return at;
                }
                at++;
            }
            return at;
        }

        private int byteHere() {
            return at < size ? text[at] : NONE;
        }

        private void readPart() {
            int day = readDay();
            int sign = byteHere();
            if (wrong == NONE && sign != '=' && sign != '~') {
                wrong = at;
            }
            if (wrong != NONE) {
                return;
            }
            at++;
            int middle = readNumber(-FARTHEST);
            int spread = sign == '~' ? readSpread() : 0;
            if (wrong != NONE || parts >= DAYS) {
                return;
            }
            partDay[parts] = day;
            partMiddle[parts] = middle;
            partSpread[parts] = spread;
            parts++;
        }

        private int readDay() {
            int first = at;
            int day = readFigures(FIGURES_OF_DAY);
            int earliest = parts == 0 ? 0 : partDay[parts - 1] + 1;
            if (wrong == NONE && !isWithin(day, earliest, DAYS - 1)) {
                wrong = first;
            }
            return day;
        }

        private int readSpread() {
            if (wrong == NONE && byteHere() != ',') {
                wrong = at;
            }
            if (wrong != NONE) {
                return 0;
            }
            at++;
            return readNumber(0);
        }

        private int readNumber(int lowest) {
            int first = at;
            boolean minus = byteHere() == '-';
            if (minus) {
                at++;
            }
            int amount = readFigures(FIGURES_OF_NUMBER);
            int number = minus ? -amount : amount;
            if (wrong == NONE && !isWithin(number, lowest, FARTHEST)) {
                wrong = first;
            }
            return number;
        }

        private int readFigures(int most) {
            int number = 0;
            int figures = 0;
            while (figures < most && isWithin(byteHere(), '0', '9')) {
                number = 10 * number + byteHere() - '0';
                at++;
                figures++;
            }
            if (figures == 0) {
                wrong = at;
            }
            return number;
        }

        int offTogether(Points points) {
            int off = 0;
            for (int x = 0; x < points.size; x++) {
                off += offAt(points, x);
            }
            return off;
        }

        int worstDay(Points points) {
            int worst = NONE;
            int most = 0;
            for (int x = 0; x < points.size; x++) {
                int off = offAt(points, x);
                if (off > most) {
                    most = off;
                    worst = points.day[x];
                }
            }
            return worst;
        }

        private int offAt(Points points, int x) {
            int part = parts - 1;
            while (part >= 0 && partDay[part] > points.day[x]) {
                part--;
            }
            if (part < 0) {
                return 0;
            }
            return Math.max(0, Math.abs(points.worth[x] - partMiddle[part]) - partSpread[part]);
        }
    }

    /** A SHEET: its room is kept when it is LOST and used again. */
    private static final class Sheet {
        final int[] item = new int[MOST_ITEMS];
        int kind = 0;
        int size = NONE;

        boolean isLost() {
            return size == NONE;
        }

        void renew(int newKind, int n) {
            kind = newKind;
            size = n;
            Arrays.fill(item, 0);
        }

        boolean has(int from, int n) {
            return from >= 0 && n >= 0 && n <= size && from <= size - n;
        }

        /** What is to be found when item i is treated as of a TYPE; 0: nothing. */
        int findingAt(int asKind, int i) {
            if (isLost()) {
                return NULL;
            }
            if (asKind != kind) {
                return CAST;
            }
            return has(i, 1) ? 0 : INDEX;
        }

        void store(int i, int v) {
            if (!has(i, 1)) {
                return;
            }
            item[i] = kind == 0 ? (byte) v : kind == 1 ? (short) v : v;
        }
    }
}
