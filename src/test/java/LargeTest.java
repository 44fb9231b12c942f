import java.math.BigInteger;
import java.util.Arrays;
import java.util.Random;

/**
 * Rows of up to all 40 DAYS, into up to six STRETCHES, without up to two POINTS: PlainBreaks, which tries all cuts, would
 * be too slow there. Here the best cuts are found from the front, POINT by POINT, and what is left out is tried one by one.
 */
public final class LargeTest {
    private static final int NOT = -3, GAP = -9999, MOST = 6;
    private static final BigInteger BELOW = BigInteger.valueOf(5342931457063200L);
    private static final Random RANDOM = new Random(9);
    private static int answers = 0;
    private static int wrong = 0;

    /** The least cost into each number of stretches, times BELOW, and where their stretches begin; null: there is none. */
    private record Found(BigInteger[] cost, int[][] starts) { }

    public static void main(String[] args) {
        for (int n = 1; n <= 40; n++) if (BELOW.mod(BigInteger.valueOf(n)).signum() != 0) throw new IllegalStateException("BELOW");
        for (int shape = 0; shape < 8; shape++) {
            int[] values = values(shape);
            for (int least : new int[] {1, 1 + shape % 7}) {
                LevelBreaks x = told(values, 0);
                x.least(0, least);
                for (int kind = 0; kind < 4; kind++) {
                    cuts(x, values, kind, least);
                    simpler(x, values, kind, 1, 1 + RANDOM.nextInt(MOST), least);
                }
                simpler(x, values, shape % 4, 2, least == 1 ? MOST : 1 + shape % 3, least);
            }
        }
        for (int shape = 0; shape < 8; shape++) since(shape);
        System.out.println(wrong == 0 ? answers + " answers of large rows hold" : wrong + " answers are not as due");
        if (wrong != 0) System.exit(1);
    }

    private static void due(String what, long got, long want) {
        answers++;
        if (got == want) return;
        wrong++;
        System.out.println(what + " answered " + got + ", due is " + want);
    }

    /** By the shape: the farthest there are, many like ones, steps, a slope that is too steep, gaps between. */
    private static int[] values(int shape) {
        int[] values = new int[40];
        for (int day = 0; day < 40; day++) {
            int any = RANDOM.nextInt(2001) - 1000;
            values[day] = switch (shape) {
                case 0 -> any;
                case 1 -> any < 0 ? -1000 : 1000;
                case 2 -> RANDOM.nextInt(3);
                case 3 -> day / 7 % 2 * 900 + RANDOM.nextInt(5);
                case 4 -> Math.max(-1000, Math.min(1000, 45 * (day - 20))) + (any == 0 ? 1 : 0);
                case 5 -> 7;
                case 6 -> RANDOM.nextInt(4) == 0 ? GAP : RANDOM.nextInt(2) * 1000;
                default -> RANDOM.nextInt(4) == 0 ? GAP : day * 3 + RANDOM.nextInt(9);
            };
        }
        return values;
    }

    private static LevelBreaks told(int[] values, int time) {
        LevelBreaks x = new LevelBreaks();
        for (int day = 0; day < 40; day++) x.tell(0, day, values[day], time);
        return x;
    }

    private static void cuts(LevelBreaks x, int[] values, int kind, int least) {
        Found found = found(values, kind, least);
        int[] days = days(values);
        String of = Arrays.toString(values) + " least " + least + " kind " + kind + ": ";
        due(of + "many", x.many(0), days.length);
        for (int k = 1; k <= MOST; k++) {
            if (found.cost[k] == null) {
                due(of + "best " + k, x.best(0, kind, k, 0), Long.MIN_VALUE + 3);
                continue;
            }
            BigInteger common = found.cost[k].gcd(BELOW);
            due(of + "best above " + k, x.best(0, kind, k, 0), found.cost[k].divide(common).longValueExact());
            due(of + "best below " + k, x.best(0, kind, k, 1), BELOW.divide(common).longValueExact());
            for (int i = 0; i < k; i++) due(of + "cut " + k + " " + i, x.cut(0, kind, k, i), days[found.starts[k][i]]);
        }
        for (int price : new int[] {0, 1, 3, 40, 900, 50000, 700000, 1000000}) {
            due(of + "priced " + price, x.priced(0, kind, price), priced(found, price));
        }
    }

    private static int priced(Found found, int price) {
        int answer = NOT;
        BigInteger lowest = null;
        for (int k = 1; k <= MOST; k++) {
            if (found.cost[k] == null) continue;
            BigInteger all = found.cost[k].add(BELOW.multiply(BigInteger.valueOf((long) price * (k - 1))));
            if (lowest != null && all.compareTo(lowest) >= 0) continue;
            lowest = all;
            answer = k;
        }
        return answer;
    }

    private static void simpler(LevelBreaks x, int[] values, int kind, int q, int k, int least) {
        int[] days = days(values);
        int[] left = {NOT, NOT};
        BigInteger lowest = null;
        for (int a = 0; a < days.length; a++) {
            for (int b = q == 1 ? a : a + 1; b < (q == 1 ? a + 1 : days.length); b++) {
                int[] without = values.clone();
                without[days[a]] = GAP;
                without[days[b]] = GAP;
                BigInteger cost = found(without, kind, least).cost[k];
                if (cost == null || lowest != null && cost.compareTo(lowest) >= 0) continue;
                lowest = cost;
                left = new int[] {days[a], days[b]};
            }
        }
        String of = Arrays.toString(values) + " least " + least + " kind " + kind + ": ";
        for (int i = 0; i < q; i++) due(of + "simpler " + k + " " + q + " " + i, x.simpler(0, kind, k, q, i), left[i]);
    }

    /** All 40 DAYS at a TIME, and then 160 more at as many TIMES, corrected and told as NONE. */
    private static void since(int shape) {
        int[][] asOf = new int[162][];
        asOf[1] = values(shape);
        LevelBreaks x = told(asOf[1], 1);
        for (int time = 2; time <= 161; time++) {
            asOf[time] = asOf[time - 1].clone();
            int day = RANDOM.nextInt(40);
            int value = RANDOM.nextInt(9) == 0 ? GAP : asOf[time][RANDOM.nextInt(40)];
            asOf[time][day] = value;
            due("tell", x.tell(0, day, value, time), 39 + time);
        }
        int kind = shape % 4;
        Found[] found = new Found[162];
        for (int time = 1; time <= 161; time++) found[time] = found(asOf[time], kind, 1);
        for (int now : new int[] {999, 150, 100, 77, 2, 1}) {
            x.asOf(now);
            int last = Math.min(now, 161);
            for (int k = 1; k <= MOST; k++) {
                int time = last;
                while (time > 1 && Arrays.equals(startDays(found[last], asOf[last], k), startDays(found[time - 1], asOf[time - 1], k))) time--;
                due("shape " + shape + " as of " + now + ": since " + kind + " " + k, x.since(0, kind, k), time);
            }
        }
    }

    private static int[] startDays(Found found, int[] values, int k) {
        int[] days = days(values);
        return Arrays.stream(found.starts[k]).map(start -> days[start]).toArray();
    }

    private static int[] days(int[] values) {
        int[] days = new int[40];
        int n = 0;
        for (int day = 0; day < 40; day++) if (values[day] != GAP) days[n++] = day;
        return Arrays.copyOf(days, n);
    }

    private static Found found(int[] values, int kind, int least) {
        int[] days = days(values);
        int n = days.length;
        BigInteger[][] costs = new BigInteger[n][n];
        for (int a = 0; a < n; a++) for (int b = a; b < n; b++) costs[a][b] = cost(values, days, a, b, kind);
        BigInteger[][] best = new BigInteger[MOST + 1][n + 1];
        int[][][] starts = new int[MOST + 1][n + 1][];
        best[0][0] = BigInteger.ZERO;
        starts[0][0] = new int[0];
        for (int k = 1; k <= MOST; k++) {
            for (int end = least; end <= n; end++) {
                for (int from = 0; from <= end - least; from++) {
                    if (best[k - 1][from] == null) continue;
                    BigInteger cost = best[k - 1][from].add(costs[from][end - 1]);
                    int than = best[k][end] == null ? -1 : cost.compareTo(best[k][end]);
                    if (than > 0) continue;
                    int[] with = Arrays.copyOf(starts[k - 1][from], k);
                    with[k - 1] = from;
                    if (than == 0 && Arrays.compare(with, starts[k][end]) >= 0) continue;
                    best[k][end] = cost;
                    starts[k][end] = with;
                }
            }
        }
        BigInteger[] cost = new BigInteger[MOST + 1];
        int[][] first = new int[MOST + 1][];
        for (int k = 1; k <= MOST; k++) {
            cost[k] = best[k][n];
            first[k] = starts[k][n];
        }
        return new Found(cost, first);
    }

    private static BigInteger cost(int[] values, int[] days, int a, int b, int kind) {
        long n = b - a + 1;
        long above = Long.MAX_VALUE;
        if (kind == 0 || kind == 2) {
            int steepest = kind == 0 ? 0 : 20;
            for (int g = -steepest; g <= steepest; g++) {
                long sum = 0;
                long squares = 0;
                for (int x = a; x <= b; x++) {
                    long v = values[days[x]] - g * days[x];
                    sum += v;
                    squares += v * v;
                }
                above = Math.min(above, n * squares - sum * sum);
            }
            return BELOW.divide(BigInteger.valueOf(n)).multiply(BigInteger.valueOf(above));
        }
        for (int middle = a; middle <= b; middle++) {
            long all = 0;
            for (int x = a; x <= b; x++) {
                int off = Math.abs(values[days[x]] - values[days[middle]]);
                all += kind == 1 ? off : Math.min(off, 1);
            }
            above = Math.min(above, all);
        }
        return BELOW.multiply(BigInteger.valueOf(above));
    }
}
