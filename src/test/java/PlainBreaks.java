import java.math.BigInteger;
import java.util.ArrayList;
import java.util.Arrays;
import java.util.List;

/**
 * The document once more, as plainly as its words: all cuts, all choices and all limits are tried one by one.
 * It is slow and makes many objects; the tests hold LevelBreaks against it.
 */
final class PlainBreaks {
    static final int NONE = -1, BAD = -2, NOT = -3, FULL = -4;
    private static final int GAP = -9999;
    /** 40! times 1 / n is whole for each n up to 40. */
    private static final BigInteger SCALE = factorial(40);

    private record Told(int row, int day, int value, int time) { }

    private record Part(int day, int middle, int spread) { }

    /** Stretches' first points, and the cost times SCALE. */
    private record Best(int[] starts, BigInteger cost) { }

    private final List<Told> told = new ArrayList<>();
    private final int[] least = {1, 1, 1, 1};
    private final List<Integer> text = new ArrayList<>();
    private final Object[] sheets = new Object[4];
    private int asOf = 999;
    private int finding = 0;

    // ---- rows

    int tell(int row, int day, int value, int time) {
        if (row < 0 || row > 3 || day < 0 || day > 39 || !mayBeValue(value) || !mayBeTime(time)) return BAD;
        if (told.size() == 200) return FULL;
        told.add(new Told(row, day, value, time));
        return told.size();
    }

    int read(int s, int row, int day, int time) {
        if (s < 0 || s > 3 || row < 0 || row > 3 || day < 0 || day > 39 || !mayBeTime(time)) return BAD;
        if (sheets[s] == null) return finding(1);
        int n = 0;
        for (int item : items(s)) {
            if (tell(row, day + n, item, time) < 0) break;
            n++;
        }
        return n;
    }

    int asOf(int time) {
        if (time < 0 || time > 999) return BAD;
        int was = asOf;
        asOf = time;
        return was;
    }

    int least(int row, int m) {
        if (row < 0 || row > 3 || m < 1 || m > 10) return BAD;
        int was = least[row];
        least[row] = m;
        return was;
    }

    int value(int row, int day) {
        if (row < 0 || row > 3 || day < 0 || day > 39) return -10000;
        return valueAsOf(row, day, asOf);
    }

    int many(int row) {
        if (row < 0 || row > 3) return BAD;
        return days(row, asOf).length;
    }

    private boolean mayBeValue(int value) {
        return value == GAP || value >= -1000 && value <= 1000;
    }

    private boolean mayBeTime(int time) {
        return time >= 0 && time <= 999 && time >= count(6);
    }

    private int valueAsOf(int row, int day, int time) {
        int value = GAP;
        for (Told t : told) if (t.row == row && t.day == day && t.time <= time) value = t.value;
        return value;
    }

    private int[] days(int row, int time) {
        int[] days = new int[40];
        int n = 0;
        for (int d = 0; d < 40; d++) if (valueAsOf(row, d, time) != GAP) days[n++] = d;
        return Arrays.copyOf(days, n);
    }

    private int[] values(int row, int[] days, int time) {
        int[] values = new int[days.length];
        for (int x = 0; x < days.length; x++) values[x] = valueAsOf(row, days[x], time);
        return values;
    }

    // ---- costs, cuts

    long cost(int row, int kind, int a, int b, int what) {
        if (row < 0 || row > 3 || kind < 0 || kind > 3 || what < 0 || what > 1) return refused(BAD);
        int[] days = days(row, asOf);
        if (a < 0 || a >= days.length || b < 0 || b >= days.length || a > b) return refused(BAD);
        return told(stretchCost(kind, days, values(row, days, asOf), a, b), what);
    }

    long best(int row, int kind, int k, int what) {
        if (row < 0 || row > 3 || kind < 0 || kind > 3 || k < 1 || k > 6 || what < 0 || what > 1) return refused(BAD);
        Best best = bestCuts(row, kind, k, asOf);
        return best == null ? refused(NOT) : told(best.cost, what);
    }

    int cut(int row, int kind, int k, int i) {
        if (row < 0 || row > 3 || kind < 0 || kind > 3 || k < 1 || k > 6 || i < 0 || i >= k) return BAD;
        Best best = bestCuts(row, kind, k, asOf);
        return best == null ? NOT : days(row, asOf)[best.starts[i]];
    }

    int priced(int row, int kind, int price) {
        if (row < 0 || row > 3 || kind < 0 || kind > 3 || price < 0 || price > 1000000) return BAD;
        int answer = NOT;
        BigInteger lowest = null;
        for (int k = 1; k <= 6; k++) {
            Best best = bestCuts(row, kind, k, asOf);
            if (best == null) continue;
            BigInteger all = best.cost.add(SCALE.multiply(BigInteger.valueOf((long) price * (k - 1))));
            if (lowest == null || all.compareTo(lowest) < 0) {
                lowest = all;
                answer = k;
            }
        }
        return answer;
    }

    int near(int row, int kind, int k, int p) {
        if (row < 0 || row > 3 || kind < 0 || kind > 3 || k < 2 || k > 3 || p < 0 || p > 1000) return BAD;
        Best best = bestCuts(row, kind, k, asOf);
        if (best == null) return NOT;
        BigInteger bound = best.cost.multiply(BigInteger.valueOf(100 + p));
        BigInteger[][] costs = costs(kind, row, asOf);
        int n = costs.length;
        int answer = 0;
        for (int second = least[row]; second <= n - least[row]; second++) {
            for (int third = k == 2 ? n : second + least[row]; third <= (k == 2 ? n : n - least[row]); third++) {
                BigInteger cost = costs[0][second - 1].add(costs[second][third - 1]);
                if (k == 3) cost = cost.add(costs[third][n - 1]);
                if (cost.multiply(BigInteger.valueOf(100)).compareTo(bound) <= 0) answer++;
            }
        }
        return answer;
    }

    int common(int rows, int kind, int k) {
        if (rows < 1 || rows > 15 || kind != 1 && kind != 3 || k < 1 || k > 6) return BAD;
        Best best = commonCuts(rows, kind, k);
        return best == null ? NOT : best.cost.intValueExact();
    }

    int shared(int rows, int kind, int k, int i) {
        if (rows < 1 || rows > 15 || kind != 1 && kind != 3 || k < 1 || k > 6 || i < 0 || i >= k) return BAD;
        Best best = commonCuts(rows, kind, k);
        return best == null ? NOT : best.starts[i];
    }

    int since(int row, int kind, int k) {
        if (row < 0 || row > 3 || kind < 0 || kind > 3 || k < 1 || k > 6) return BAD;
        int[] now = startDays(row, kind, k, asOf);
        if (now == null) return NOT;
        int[] lastDays = null;
        int[] lastValues = null;
        int time = asOf;
        while (time > 0) {
            int[] days = days(row, time - 1);
            int[] values = values(row, days, time - 1);
            // where a row is the same as a time later, so are its cuts
            if (!Arrays.equals(days, lastDays) || !Arrays.equals(values, lastValues)) {
                if (!Arrays.equals(now, startDays(row, kind, k, time - 1))) break;
                lastDays = days;
                lastValues = values;
            }
            time--;
        }
        return time;
    }

    private int[] startDays(int row, int kind, int k, int time) {
        Best best = bestCuts(row, kind, k, time);
        if (best == null) return null;
        int[] days = days(row, time);
        int[] starts = new int[k];
        for (int i = 0; i < k; i++) starts[i] = days[best.starts[i]];
        return starts;
    }

    private static BigInteger factorial(int n) {
        BigInteger f = BigInteger.ONE;
        for (int x = 2; x <= n; x++) f = f.multiply(BigInteger.valueOf(x));
        return f;
    }

    private static long refused(int why) {
        return Long.MIN_VALUE + -why;
    }

    private static long told(BigInteger scaled, int what) {
        BigInteger common = scaled.gcd(SCALE);
        return (what == 0 ? scaled : SCALE).divide(common).longValueExact();
    }

    private static BigInteger stretchCost(int kind, int[] days, int[] values, int a, int b) {
        int[] v = Arrays.copyOfRange(values, a, b + 1);
        int[] d = Arrays.copyOfRange(days, a, b + 1);
        if (kind == 0) return level(v);
        if (kind == 2) {
            BigInteger lowest = null;
            for (int g = -20; g <= 20; g++) {
                int[] w = v.clone();
                for (int x = 0; x < w.length; x++) w[x] -= g * d[x];
                BigInteger c = level(w);
                if (lowest == null || c.compareTo(lowest) < 0) lowest = c;
            }
            return lowest;
        }
        long cost = 0;
        if (kind == 1) {
            int[] sorted = v.clone();
            Arrays.sort(sorted);
            for (int x : v) cost += Math.abs(x - sorted[(sorted.length - 1) / 2]);
        } else {
            cost = v.length;
            for (int x : v) {
                long unlike = 0;
                for (int y : v) if (x != y) unlike++;
                cost = Math.min(cost, unlike);
            }
        }
        return SCALE.multiply(BigInteger.valueOf(cost));
    }

    /** The squares of the differences to the mean, times SCALE: each is (n v - sum)^2 / n^2. */
    private static BigInteger level(int[] v) {
        long n = v.length;
        long sum = 0;
        for (int x : v) sum += x;
        long squares = 0;
        for (int x : v) squares += (n * x - sum) * (n * x - sum);
        return SCALE.multiply(BigInteger.valueOf(squares)).divide(BigInteger.valueOf(n * n));
    }

    private BigInteger[][] costs(int kind, int row, int time) {
        int[] days = days(row, time);
        return costs(kind, days, values(row, days, time));
    }

    private static BigInteger[][] costs(int kind, int[] days, int[] values) {
        int n = days.length;
        BigInteger[][] costs = new BigInteger[n][n];
        for (int a = 0; a < n; a++) for (int b = a; b < n; b++) costs[a][b] = stretchCost(kind, days, values, a, b);
        return costs;
    }

    private Best bestCuts(int row, int kind, int k, int time) {
        return tryAll(costs(kind, row, time), least[row], k);
    }

    private static Best tryAll(BigInteger[][] costs, int least, int k) {
        if (costs.length == 0 || costs.length < k * least) return null;
        Best[] best = {null};
        tryFrom(costs, least, new int[k], 0, BigInteger.ZERO, best);
        return best[0];
    }

    /** The least starts come first, so of like ones the first stays. */
    private static void tryFrom(BigInteger[][] costs, int least, int[] starts, int i, BigInteger cost, Best[] best) {
        int n = costs.length;
        int from = starts[i];
        if (best[0] != null && cost.compareTo(best[0].cost) >= 0) return;
        if (i == starts.length - 1) {
            if (n - from < least) return;
            BigInteger all = cost.add(costs[from][n - 1]);
            if (best[0] == null || all.compareTo(best[0].cost) < 0) best[0] = new Best(starts.clone(), all);
            return;
        }
        for (int next = from + least; next < n; next++) {
            starts[i + 1] = next;
            tryFrom(costs, least, starts, i + 1, cost.add(costs[from][next - 1]), best);
        }
    }

    private Best commonCuts(int rows, int kind, int k) {
        BigInteger[][] costs = new BigInteger[40][40];
        for (int a = 0; a < 40; a++) for (int b = a; b < 40; b++) costs[a][b] = commonCost(rows, kind, a, b);
        Best[] best = {null};
        tryDays(costs, new int[k], 0, BigInteger.ZERO, best);
        return best[0];
    }

    private BigInteger commonCost(int rows, int kind, int a, int b) {
        BigInteger cost = BigInteger.ZERO;
        for (int row = 0; row < 4; row++) {
            if ((rows & 1 << row) == 0) continue;
            int[] days = Arrays.stream(days(row, asOf)).filter(d -> d >= a && d <= b).toArray();
            if (days.length < least[row]) return null;
            cost = cost.add(stretchCost(kind, days, values(row, days, asOf), 0, days.length - 1).divide(SCALE));
        }
        return cost;
    }

    private static void tryDays(BigInteger[][] costs, int[] starts, int i, BigInteger cost, Best[] best) {
        int from = starts[i];
        if (best[0] != null && cost.compareTo(best[0].cost) >= 0) return;
        if (i == starts.length - 1) {
            if (costs[from][39] == null) return;
            BigInteger all = cost.add(costs[from][39]);
            if (best[0] == null || all.compareTo(best[0].cost) < 0) best[0] = new Best(starts.clone(), all);
            return;
        }
        for (int next = from + 1; next <= 39; next++) {
            if (costs[from][next - 1] == null) continue;
            starts[i + 1] = next;
            tryDays(costs, starts, i + 1, cost.add(costs[from][next - 1]), best);
        }
    }

    // ---- chance

    int doubt(int row, int k, int i) {
        if (row < 0 || row > 3 || k < 1 || k > 6 || i < 1 || i > k - 1) return BAD;
        Best best = bestCuts(row, 0, k, asOf);
        if (best == null) return NOT;
        int[] days = days(row, asOf);
        int first = best.starts[i - 1];
        int second = best.starts[i];
        int end = i == k - 1 ? days.length : best.starts[i + 1];
        if (end - first > 16) return FULL;
        int[] v = Arrays.copyOfRange(values(row, days, asOf), first, end);
        int m = second - first;
        long all = 0;
        for (int x : v) all += x;
        long bar = distance(v, (1 << m) - 1, m, all);
        long far = 0;
        long ways = 0;
        for (int set = 0; set < 1 << v.length; set++) {
            if (Integer.bitCount(set) != m) continue;
            ways++;
            if (distance(v, set, m, all) >= bar) far++;
        }
        return (int) (far * 1000000 / ways);
    }

    private static long distance(int[] v, int set, int m, long all) {
        long sum = 0;
        for (int x = 0; x < v.length; x++) if ((set & 1 << x) != 0) sum += v[x];
        return Math.abs(sum * v.length - all * m);
    }

    int simpler(int row, int kind, int k, int q, int i) {
        if (row < 0 || row > 3 || kind < 0 || kind > 3 || k < 1 || k > 6) return BAD;
        if (q < 1 || q > 2 || i < 0 || i > q - 1) return BAD;
        int[] days = days(row, asOf);
        int[] values = values(row, days, asOf);
        int n = days.length;
        if (n - q < k * least[row] || q + 1 > n) return NOT;
        BigInteger lowest = null;
        int answer = 0;
        for (int x = 0; x < n; x++) {
            for (int y = q == 1 ? x : x + 1; y < (q == 1 ? x + 1 : n); y++) {
                int[] d = without(days, x, y);
                BigInteger cost = tryAll(costs(kind, d, without(values, x, y)), least[row], k).cost;
                if (lowest == null || cost.compareTo(lowest) < 0) {
                    lowest = cost;
                    answer = days[i == 0 ? x : y];
                }
            }
        }
        return answer;
    }

    private static int[] without(int[] all, int x, int y) {
        int[] left = new int[all.length - (x == y ? 1 : 2)];
        int n = 0;
        for (int z = 0; z < all.length; z++) if (z != x && z != y) left[n++] = all[z];
        return left;
    }

    int together(int row, int other, int kind, int k, int r, int what) {
        if (row < 0 || row > 3 || other < 0 || other > 3 || row == other || kind < 0 || kind > 3) return BAD;
        if (k < 2 || k > 6 || r < 0 || r > 9 || what < 0 || what > 1) return BAD;
        int[] mine = startDays(row, kind, k, asOf);
        int[] theirs = startDays(other, kind, k, asOf);
        if (mine == null || theirs == null) return NOT;
        int hits = hits(Arrays.copyOfRange(mine, 1, k), theirs, r);
        if (what == 0) return hits;
        long[] ways = {0, 0};
        put(new int[k - 1], 0, theirs, r, hits, ways);
        return (int) (ways[1] * 1000000 / ways[0]);
    }

    private static int hits(int[] cuts, int[] starts, int r) {
        int n = 0;
        for (int c : cuts) {
            boolean near = false;
            for (int i = 1; i < starts.length; i++) near |= Math.abs(c - starts[i]) <= r;
            if (near) n++;
        }
        return n;
    }

    private static void put(int[] cuts, int i, int[] starts, int r, int hits, long[] ways) {
        if (i == cuts.length) {
            ways[0]++;
            if (hits(cuts, starts, r) >= hits) ways[1]++;
            return;
        }
        for (int day = i == 0 ? 1 : cuts[i - 1] + 1; day <= 39; day++) {
            cuts[i] = day;
            put(cuts, i + 1, starts, r, hits, ways);
        }
    }

    // ---- alarms

    private List<Integer> alarmDays(int row, int target, int slack, int limit, int way) {
        List<Integer> days = new ArrayList<>();
        int sum = 0;
        for (int d : days(row, asOf)) {
            int v = value(row, d);
            sum += (way == 0 ? v - target : target - v) - slack;
            if (sum < 0) sum = 0;
            if (sum >= limit) {
                days.add(d);
                sum = 0;
            }
        }
        return days;
    }

    private static boolean badWatch(int row, int target, int slack, int way) {
        return row < 0 || row > 3 || target < -1000 || target > 1000 || slack < 0 || slack > 1000 || way < 0 || way > 1;
    }

    int alarm(int row, int target, int slack, int limit, int way, int day) {
        if (badWatch(row, target, slack, way) || limit < 1 || limit > 100000 || day < -1 || day > 39) return BAD;
        List<Integer> days = alarmDays(row, target, slack, limit, way);
        return day == NONE ? days.size() : days.contains(day) ? 1 : 0;
    }

    int soon(int row, int target, int slack, int limit, int way, int day, int what) {
        if (badWatch(row, target, slack, way) || limit < 1 || limit > 100000) return BAD;
        if (day < 0 || day > 39 || what < 0 || what > 1) return BAD;
        int before = 0;
        for (int d : alarmDays(row, target, slack, limit, way)) {
            if (d < day) before++;
            else if (what == 0) return d - day;
        }
        return what == 0 ? NONE : before;
    }

    int limit(int row, int target, int slack, int way, int day) {
        if (badWatch(row, target, slack, way) || day < 0 || day > 39) return BAD;
        for (int limit = 1; limit <= 2000; limit++) {
            List<Integer> days = alarmDays(row, target, slack, limit, way);
            if (!days.isEmpty() && days.get(0) >= day) return limit;
        }
        return NONE;
    }

    // ---- beforehand

    int type(int b) {
        if (b < 0 || b > 255) return BAD;
        if (text.size() == 100) return FULL;
        text.add(b);
        return text.size();
    }

    int wipe() {
        int n = text.size();
        text.clear();
        return n;
    }

    int fault() {
        return parse(new ArrayList<>());
    }

    /** Byte by byte: what is awaited, how many figures there were; the first number that may not be, or the first wrong byte. */
    private int parse(List<Part> parts) {
        StringBuilder s = new StringBuilder();
        for (int b : text) s.append((char) b);
        s.append('\uffff');
        int at = 0;
        int lastDay = -1;
        while (true) {
            int end = at;
            while (end < at + 2 && Character.digit(s.charAt(end), 10) >= 0 && s.charAt(end) < 128) end++;
            if (end == at) return end;
            int day = Integer.parseInt(s.substring(at, end));
            if (day > 39 || day <= lastDay) return at;
            lastDay = day;
            char sign = s.charAt(end);
            if (sign != '=' && sign != '~') return end;
            int[] numbers = {0, 0};
            for (int x = 0; x < (sign == '=' ? 1 : 2); x++) {
                if (x == 1 && s.charAt(end) != ',') return end;
                at = end + 1;
                end = at;
                if (s.charAt(end) == '-') end++;
                int figures = end;
                while (end < figures + 4 && "0123456789".indexOf(s.charAt(end)) >= 0) end++;
                if (end == figures) return end;
                numbers[x] = Integer.parseInt(s.substring(at, end));
                if (numbers[x] > 1000 || numbers[x] < (x == 0 ? -1000 : 0)) return at;
            }
            parts.add(new Part(day, numbers[0], numbers[1]));
            if (end == text.size()) return NONE;
            if (s.charAt(end) != ';') return end;
            at = end + 1;
        }
    }

    int missed(int row, int what) {
        if (row < 0 || row > 3 || what < 0 || what > 1) return BAD;
        List<Part> parts = new ArrayList<>();
        if (parse(parts) != NONE) return NOT;
        int all = 0;
        int worst = NONE;
        int most = 0;
        for (int d : days(row, asOf)) {
            Part part = null;
            for (Part p : parts) if (p.day <= d) part = p;
            if (part == null) continue;
            int v = value(row, d);
            int off = 0;
            while (v + off < part.middle - part.spread || v - off > part.middle + part.spread) off++;
            all += off;
            if (off > most) {
                most = off;
                worst = d;
            }
        }
        return what == 0 ? all : worst;
    }

    // ---- sheets

    private int finding(int number) {
        finding = number;
        return -10 - number;
    }

    private int[] items(int s) {
        int n = java.lang.reflect.Array.getLength(sheets[s]);
        int[] items = new int[n];
        for (int i = 0; i < n; i++) items[i] = java.lang.reflect.Array.getInt(sheets[s], i);
        return items;
    }

    private int typeOf(int s) {
        return sheets[s] instanceof byte[] ? 0 : sheets[s] instanceof short[] ? 1 : 2;
    }

    int sheet(int s, int type, int n) {
        if (s < 0 || s > 3 || type < 0 || type > 2 || n > 60) return BAD;
        if (n < 0) return finding(5);
        sheets[s] = type == 0 ? new byte[n] : type == 1 ? new short[n] : new int[n];
        return n;
    }

    int lose(int s) {
        if (s < 0 || s > 3) return BAD;
        if (sheets[s] == null) return finding(1);
        int n = items(s).length;
        sheets[s] = null;
        return n;
    }

    int put(int s, int type, int i, int v) {
        if (s < 0 || s > 3 || type < 0 || type > 2) return BAD;
        if (sheets[s] == null) return finding(1);
        if (typeOf(s) != type) return finding(3);
        if (i < 0 || i >= items(s).length) return finding(2);
        if (sheets[s] instanceof byte[] bytes) bytes[i] = (byte) v;
        if (sheets[s] instanceof short[] shorts) shorts[i] = (short) v;
        if (sheets[s] instanceof int[] ints) ints[i] = v;
        return 1;
    }

    int get(int s, int type, int i) {
        if (s < 0 || s > 3 || type < 0 || type > 2) return Integer.MIN_VALUE;
        int why = sheets[s] == null ? 1 : typeOf(s) != type ? 3 : i < 0 || i >= items(s).length ? 2 : 0;
        if (why == 0) return items(s)[i];
        finding(why);
        return Integer.MIN_VALUE;
    }

    int copy(int s, int i, int t, int j, int n) {
        if (s < 0 || s > 3 || t < 0 || t > 3) return BAD;
        if (sheets[s] == null || sheets[t] == null) return finding(1);
        if (typeOf(s) != typeOf(t)) return finding(4);
        if (i < 0 || j < 0 || n < 0) return finding(2);
        if ((long) i + n > items(s).length || (long) j + n > items(t).length) return finding(2);
        int[] were = items(s);
        for (int x = 0; x < n; x++) put(t, typeOf(t), j + x, were[i + x]);
        return 1;
    }

    int write(int row, int s) {
        if (row < 0 || row > 3 || s < 0 || s > 3) return BAD;
        if (sheets[s] == null) return finding(1);
        int n = 0;
        while (n < items(s).length && n < 40) {
            put(s, typeOf(s), n, value(row, n));
            n++;
        }
        return n;
    }

    int count(int what) {
        if (what >= 0 && what <= 3) return many(what);
        if (what == 4) return told.size();
        if (what == 5) return asOf;
        if (what == 6) return told.isEmpty() ? 0 : told.get(told.size() - 1).time;
        if (what == 7) return text.size();
        return what == 8 ? finding : BAD;
    }

    long digest() {
        long h = 17;
        for (int what = 0; what <= 7; what++) h = 31 * h + count(what);
        for (int row = 0; row < 4; row++) for (int day = 0; day < 40; day++) h = 31 * h + value(row, day);
        for (int row = 0; row < 4; row++) {
            for (int kind = 0; kind < 4; kind++) {
                for (int what = 0; what < 2; what++) {
                    long b = best(row, kind, 2, what);
                    h = 31 * h + (b == Long.MIN_VALUE + 3 ? -3 : b);
                }
            }
        }
        return 31 * h + fault();
    }
}
