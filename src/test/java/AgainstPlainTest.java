import java.lang.reflect.InvocationTargetException;
import java.lang.reflect.Method;
import java.util.ArrayList;
import java.util.HashMap;
import java.util.List;
import java.util.Map;
import java.util.Random;

/** Random runs of calls, the same each time, on LevelBreaks and on PlainBreaks: all answers must be alike. */
public final class AgainstPlainTest {
    private static final String[] ROW_CALLS = {"tell", "tell", "tell", "read", "asOf", "least", "value", "many"};
    private static final String[] CUT_CALLS = {"cost", "cost", "best", "best", "cut", "cut", "cut", "priced", "near",
        "common", "shared", "since", "since"};
    private static final String[] CHANCE_CALLS = {"doubt", "doubt", "simpler", "simpler", "together", "together"};
    private static final String[] ALARM_CALLS = {"alarm", "soon", "limit"};
    private static final String[] TEXT_CALLS = {"type", "text", "text", "wipe", "fault", "fault", "missed", "missed"};
    private static final String[] SHEET_CALLS = {"sheet", "lose", "put", "put", "get", "get", "copy", "copy", "write",
        "count", "count", "digest"};
    private static final String[][] CALLS = {ROW_CALLS, CUT_CALLS, CHANCE_CALLS, ALARM_CALLS, TEXT_CALLS, SHEET_CALLS};

    private static final int MOST_CALLS = 512;
    private static final int[] STRANGE = {-1, -2, 2, 3, 4, 5, 6, 7, 10, 11, 16, 39, 40, 41, 61, 256, 999, 1000, 1001, -1001,
        100001, 1000001, Integer.MIN_VALUE, Integer.MAX_VALUE, -9999};

    private static final Map<String, Method> OURS = new HashMap<>();
    private static final Map<String, Method> PLAIN = new HashMap<>();

    private final Random random;
    private final List<String> calls = new ArrayList<>();
    private LevelBreaks ours;
    private PlainBreaks plain;
    private int mostDays;
    private int spread;
    private int time;
    private int strangeOneOf;

    private AgainstPlainTest(long seed) {
        random = new Random(seed);
    }

    public static void main(String[] args) throws Exception {
        long firstSeed = args.length == 2 && args[0].matches("\\d+") ? Long.parseLong(args[0]) : 1;
        long runs = args.length == 2 && args[1].matches("\\d+") ? Long.parseLong(args[1]) : 700;
        for (Method m : LevelBreaks.class.getDeclaredMethods()) OURS.put(m.getName(), m);
        for (Method m : PlainBreaks.class.getDeclaredMethods()) {
            if (OURS.containsKey(m.getName()) && !java.lang.reflect.Modifier.isPrivate(m.getModifiers())) {
                PLAIN.put(m.getName(), m);
            }
        }
        int wrong = 0;
        for (long seed = firstSeed; seed < firstSeed + runs && wrong < 5; seed++) {
            String difference = new AgainstPlainTest(seed).run();
            if (difference != null) {
                wrong++;
                System.out.println("seed " + seed + ":\n" + difference);
            }
        }
        System.out.println(wrong == 0 ? runs + " runs are alike" : "runs differ");
        if (wrong != 0) System.exit(1);
    }

    private String run() throws Exception {
        ours = new LevelBreaks();
        plain = new PlainBreaks();
        int size = random.nextInt(10);
        mostDays = size < 7 ? 4 + random.nextInt(9) : size < 9 ? 20 : 40;
        spread = new int[] {1, 2, 5, 30, 1000}[random.nextInt(5)];
        int fill = random.nextInt(mostDays * 5);
        // one run of eight goes as far as an object is used, one of eight has strange numbers all over
        int length = random.nextInt(8) == 0 ? MOST_CALLS : 30 + random.nextInt(100);
        strangeOneOf = random.nextInt(8) == 0 ? 2 : 25;
        for (int n = 0; n < fill; n++) {
            String difference = step("tell");
            if (difference != null) return difference;
        }
        // half of the runs dwell on one group of calls
        int focus = random.nextInt(2 * CALLS.length);
        for (int n = 0; n < length && calls.size() < MOST_CALLS; n++) {
            boolean dwell = focus < CALLS.length && random.nextInt(10) < 7;
            String[] group = CALLS[dwell ? focus : random.nextInt(CALLS.length)];
            String difference = step(group[random.nextInt(group.length)]);
            if (difference != null) return difference;
        }
        return null;
    }

    private String step(String name) throws Exception {
        if (name.equals("text")) {
            String wiped = random.nextInt(5) > 0 ? compare("wipe", new int[0]) : null;
            if (wiped != null) return wiped;
            for (int b : someText()) {
                if (calls.size() >= MOST_CALLS - 1) return null;
                String difference = compare("type", new int[] {b});
                if (difference != null) return difference;
            }
            return compare("fault", new int[0]);
        }
        int[] arguments = arguments(name);
        if (tooSlow(name, arguments)) return null;
        return compare(name, arguments);
    }

    /** PlainBreaks tries all choices: where these would be too many the call is left to smaller runs. */
    private boolean tooSlow(String name, int[] a) {
        return mostDays > 12 && name.equals("simpler") && (a[3] == 2 || a[2] > 3)
            || mostDays > 20 && (name.equals("priced") || name.equals("since") && a[2] > 3);
    }

    private String compare(String name, int[] arguments) throws Exception {
        StringBuilder call = new StringBuilder(name).append("(");
        Object[] boxed = new Object[arguments.length];
        for (int x = 0; x < arguments.length; x++) {
            boxed[x] = arguments[x];
            call.append(x == 0 ? "" : ", ").append(arguments[x]);
        }
        call.append(")");
        long due = ((Number) PLAIN.get(name).invoke(plain, boxed)).longValue();
        try {
            long got = ((Number) OURS.get(name).invoke(ours, boxed)).longValue();
            calls.add(call + " " + got);
            return got == due ? null : String.join("\n", calls) + " but due is " + due;
        } catch (InvocationTargetException e) {
            return String.join("\n", calls) + "\n" + call + " threw " + e.getCause();
        }
    }

    private int[] arguments(String name) {
        switch (name) {
            case "tell": return tellArguments();
            case "read": return of(sheet(), row(), from(0, mostDays - 1), someTime());
            case "asOf": return of(from(0, random.nextInt(3) == 0 ? 999 : time + 1));
            case "least": return of(row(), random.nextInt(2) == 0 ? from(1, 2) : from(1, 10));
            case "value": return of(row(), from(0, 39));
            case "many": return of(row());
            case "cost": return of(row(), kind(), from(0, mostDays / 2), from(0, mostDays - 1), from(0, 1));
            case "best": return of(row(), kind(), from(1, 6), from(0, 1));
            case "cut": { int k = from(1, 6); return of(row(), kind(), k, from(0, k - 1)); }
            case "priced": return of(row(), kind(), from(0, random.nextInt(3) == 0 ? 1000000 : spread * spread));
            case "near": return of(row(), kind(), from(2, 3), from(0, random.nextInt(2) == 0 ? 1000 : 30));
            case "common": return of(from(1, 15), from(0, 1) * 2 + 1, from(1, 6));
            case "shared": { int k = from(1, 6); return of(from(1, 15), from(0, 1) * 2 + 1, k, from(0, k - 1)); }
            case "since": return of(row(), kind(), from(1, 6));
            case "doubt": { int k = from(2, 6); return of(row(), k, from(1, k - 1)); }
            case "simpler": { int q = from(1, 2); return of(row(), kind(), from(1, 6), q, from(0, q - 1)); }
            case "together": return of(row(), row(), kind(), from(2, 6), from(0, 9), from(0, 1));
            case "alarm": return of(row(), target(), slack(), bar(), from(0, 1), from(-1, 39));
            case "soon": return of(row(), target(), slack(), bar(), from(0, 1), from(0, mostDays - 1), from(0, 1));
            case "limit": return of(row(), target(), slack(), from(0, 1), from(0, mostDays - 1));
            case "type": return of(random.nextInt(3) == 0 ? from(0, 255) : "0123456789;=~,-".charAt(random.nextInt(15)));
            case "missed": return of(row(), from(0, 1));
            case "sheet": return of(sheet(), from(0, 2), random.nextInt(2) == 0 ? from(0, 60) : from(-1, 8));
            case "lose": return of(sheet());
            case "put": return of(sheet(), from(0, 2), from(-1, 8), someItem());
            case "get": return of(sheet(), from(0, 2), from(-1, 8));
            case "copy": return of(sheet(), from(-1, 8), sheet(), from(-1, 8), from(-1, 8));
            case "write": return of(row(), sheet());
            case "count": return of(from(-1, 9));
            default: return new int[0];
        }
    }

    /** Now and then one of the arguments is beside what it may be. */
    private int[] of(int... arguments) {
        if (random.nextInt(strangeOneOf) == 0) {
            int strange = random.nextInt(4) == 0 ? random.nextInt() : STRANGE[random.nextInt(STRANGE.length)];
            arguments[random.nextInt(arguments.length)] = strange;
        }
        return arguments;
    }

    private int[] tellArguments() {
        if (random.nextInt(6) == 0) time = Math.min(999, time + random.nextInt(20));
        int value = random.nextInt(12) == 0 ? -9999 : someValue();
        // two rows mostly, so that some are dense
        int row = random.nextInt(3) == 0 ? row() : random.nextInt(2);
        return of(row, from(0, mostDays - 1), value, time);
    }

    private int someValue() {
        return spread == 1000 ? new int[] {-1000, 1000, 999, from(-3, 3), from(-1000, 1000)}[random.nextInt(5)]
            : from(-spread, spread);
    }

    private int from(int low, int high) {
        return low + random.nextInt(high - low + 1);
    }

    private int row() {
        return from(0, 3);
    }

    private int kind() {
        return from(0, 3);
    }

    private int sheet() {
        return random.nextInt(2) == 0 ? 0 : from(0, 3);
    }

    private int target() {
        return from(-spread, spread);
    }

    private int slack() {
        return random.nextInt(2) == 0 ? 0 : from(0, spread);
    }

    private int bar() {
        return from(1, random.nextInt(3) == 0 ? 100000 : 3 * spread);
    }

    private int someTime() {
        if (random.nextInt(4) == 0) return from(0, 999) / 4;
        return time;
    }

    private int someItem() {
        int n = random.nextInt(8);
        return n == 0 ? random.nextInt() : n == 1 ? -9999 : someValue();
    }

    /** Texts that are mostly as they should be, and then perhaps spoilt in one place. */
    private int[] someText() {
        StringBuilder s = new StringBuilder();
        int parts = 1 + random.nextInt(4);
        int day = random.nextInt(4);
        for (int p = 0; p < parts; p++) {
            if (p > 0) s.append(';');
            s.append(random.nextInt(5) == 0 && day < 10 ? "0" : "").append(day);
            if (random.nextBoolean()) s.append('=').append(someNumber());
            else s.append('~').append(someNumber()).append(',').append(Math.abs(someNumber()));
            day += random.nextInt(6) == 0 ? random.nextInt(20) : 1 + random.nextInt(5);
        }
        if (random.nextInt(2) == 0) {
            int at = random.nextInt(s.length());
            int how = random.nextInt(3);
            if (how == 0) s.deleteCharAt(at);
            else if (how == 1) s.insert(at, "0123456789;=~,-".charAt(random.nextInt(15)));
            else s.setLength(at);
        }
        return s.chars().toArray();
    }

    private int someNumber() {
        int n = random.nextInt(10);
        return n == 0 ? 1000 + random.nextInt(3) : n == 1 ? -1000 - random.nextInt(3) : from(-spread, spread);
    }
}
