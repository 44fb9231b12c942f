import java.io.IOException;
import java.lang.reflect.Method;
import java.lang.reflect.Modifier;
import java.nio.file.Files;
import java.nio.file.Path;
import java.util.ArrayList;
import java.util.HashMap;
import java.util.List;
import java.util.Map;
import java.util.TreeSet;

/**
 * What the tests of single sentences share. A test says a sentence of the document, with the promise it belongs to,
 * makes an object by calls and says what is due. A call is a text, "tell 0 5 7 10"; several stand line by line.
 */
final class Sentences {
    static final int NONE = -1, BAD = -2, NOT = -3, FULL = -4, GAP = -9999;
    static final int NULL = -11, INDEX = -12, CAST = -13, STORE = -14, SIZE = -15;
    static final int LOW = Integer.MIN_VALUE, HIGH = Integer.MAX_VALUE;
    static final long LONG_BAD = Long.MIN_VALUE + 2, LONG_NOT = Long.MIN_VALUE + 3;
    static final int PROMISES = 33, MOST_CALLS = 512;

    private static final Map<String, Method> OURS = face(LevelBreaks.class);
    private static final Map<String, Method> PLAIN = face(PlainBreaks.class);
    private static final List<String> LOOK = look();

    private final String[] partsOfDocument;
    private final String words;
    private int place = 0;
    private final TreeSet<Integer> promisesSaid = new TreeSet<>();
    private int sentences = 0;
    private int answers = 0;
    private int wrong = 0;
    private String sentence = "";
    private List<String> calls = new ArrayList<>();
    private LevelBreaks object = new LevelBreaks();

    Sentences(String[] args) throws IOException {
        String document = Files.readString(Path.of(args.length > 0 ? args[0] : "../shared", "DOC.md"));
        // the first part is what all promises rest on, the next ones are the promises
        partsOfDocument = onOneLine(document.split("\n## Not promised")[0]).split("## Promise \\d+:");
        if (partsOfDocument.length != PROMISES + 1) throw new IllegalStateException("33 promises");
        words = onOneLine(document.replaceAll("(?m)^(#|```).*$", "")).trim();
    }

    private static String onOneLine(String text) {
        return text.replaceAll("\\s+", " ");
    }

    /** From here on this sentence is tested: words of the promise itself, or of what all promises rest on. */
    void says(int promise, String words) {
        sentences++;
        promisesSaid.add(promise);
        sentence = "promise " + promise + ", \"" + words + "\"";
        if (!partsOfDocument[promise].contains(words) && !partsOfDocument[0].contains(words)) {
            fail("the document does not say so");
        }
        after();
    }

    /**
     * As says, but these words are the next ones of the document: walked through from its first to its last, none of
     * them is left out but headings. A promise begins with its call.
     */
    Sentences next(String said) {
        sentences++;
        sentence = "\"" + said + "\"";
        if (said.startsWith("`")) promisesSaid.add(promisesSaid.size() + 1);
        if (words.startsWith(said, place)) {
            place += said.length();
            while (place < words.length() && words.charAt(place) == ' ') place++;
        } else {
            fail("the document goes on with \"" + words.substring(place, Math.min(words.length(), place + 80)) + "\"");
        }
        return after();
    }

    boolean isWholeDocument() {
        return place == words.length();
    }

    /** A new object after these calls. */
    Sentences after(String... callsBefore) {
        object = new LevelBreaks();
        calls = new ArrayList<>();
        return then(callsBefore);
    }

    Sentences then(String... more) {
        for (String lines : more) {
            for (String call : lines.split("\n")) perform(call);
        }
        return this;
    }

    private long perform(String call) {
        calls.add(call);
        if (calls.size() > MOST_CALLS) throw new IllegalStateException("more calls than an object is used for");
        return ask(object, OURS, call);
    }

    /** The answer that is due. */
    Sentences answers(String call, long due) {
        answers++;
        long got = perform(call);
        if (got != due) fail(call + " answered " + got + ", due is " + due);
        return this;
    }

    /** One answer for each of these, in their order. */
    Sentences answersAll(String call, long... due) {
        for (int n = 0; n < due.length; n++) answers(call + " " + n, due[n]);
        return this;
    }

    /** The answer that PlainBreaks gives after the same calls, and that it is not this refusal. */
    void takes(String call, long refusal) {
        PlainBreaks plain = new PlainBreaks();
        for (String earlier : calls) ask(plain, PLAIN, earlier);
        long due = ask(plain, PLAIN, call);
        if (due == refusal) throw new IllegalStateException("test's own fault: " + call + " is refused");
        answers(call, due);
    }

    /** The refusal that is due, behind which all is as it was, but count() 8 where it is a FINDING. */
    Sentences refuses(String call, long due) {
        return refuses(call, due, due <= NULL && due >= SIZE ? (int) -due - 10 : 0);
    }

    /** As refuses, of a call whose answer does not tell the FINDING (0: it is none). */
    Sentences refuses(String call, long due, int finding) {
        List<String> before = new ArrayList<>(calls);
        answers(call, due);
        LevelBreaks without = made(before);
        LevelBreaks with = made(calls);
        long latest = ask(without, OURS, "count 8");
        long now = ask(with, OURS, "count 8");
        if (now != (finding == 0 ? latest : finding)) fail("behind " + call + " count 8 answered " + now);
        for (String question : LOOK) {
            long was = ask(without, OURS, question);
            long is = ask(with, OURS, question);
            if (was != is) {
                fail("behind " + call + " " + question + " answered " + is + ", it was " + was);
                break;
            }
        }
        return this;
    }

    /** Another object after these calls, line by line. */
    static LevelBreaks made(List<String> calls) {
        LevelBreaks x = new LevelBreaks();
        for (String lines : calls) {
            for (String call : lines.split("\n")) ask(x, OURS, call);
        }
        return x;
    }

    /** Calls whose answers show all that an object holds. */
    private static List<String> look() {
        List<String> look = new ArrayList<>();
        for (int what = 0; what <= 7; what++) look.add("count " + what);
        look.add("digest");
        for (int row = 0; row < 4; row++) look.add("missed " + row + " 0");
        look.add("wipe");
        for (int time : new int[] {0, 9, 10, 19, 20, 21, 998, 999}) {
            look.add("asOf " + time);
            look.add("digest");
        }
        for (int row = 0; row < 4; row++) look.add("least " + row + " 1");
        for (int s = 0; s < 4; s++) {
            for (int type = 0; type < 3; type++) {
                for (int i = 0; i < 6; i++) look.add("get " + s + " " + type + " " + i);
            }
            look.add("lose " + s);
        }
        return look;
    }

    private void fail(String how) {
        wrong++;
        System.out.println(sentence + ": " + how);
        for (String call : calls.subList(Math.max(0, calls.size() - 12), calls.size())) System.out.println("    " + call);
    }

    /** Ends the test: with exit code 1, if a sentence did not hold. */
    void end() {
        System.out.println(sentences + " sentences of the promises " + promisesSaid + ", " + answers + " answers: "
            + (wrong == 0 ? "all hold" : wrong + " do not hold"));
        if (wrong != 0) System.exit(1);
    }

    private static Map<String, Method> face(Class<?> type) {
        Map<String, Method> face = new HashMap<>();
        for (Method m : LevelBreaks.class.getDeclaredMethods()) {
            if (!Modifier.isPublic(m.getModifiers())) continue;
            try {
                face.put(m.getName(), type.getDeclaredMethod(m.getName(), m.getParameterTypes()));
            } catch (NoSuchMethodException e) {
                throw new IllegalStateException(e);
            }
        }
        return face;
    }

    static long ask(LevelBreaks x, String call) {
        return ask(x, OURS, call);
    }

    private static long ask(Object x, Map<String, Method> face, String call) {
        String[] words = call.trim().split(" +");
        Object[] numbers = new Object[words.length - 1];
        for (int n = 1; n < words.length; n++) numbers[n - 1] = Integer.parseInt(words[n]);
        try {
            return ((Number) face.get(words[0]).invoke(x, numbers)).longValue();
        } catch (ReflectiveOperationException | RuntimeException e) {
            throw new IllegalStateException(call, e);
        }
    }

    // ---- calls that are often needed

    /** VALUES of a ROW from a DAY on, told at a TIME. */
    static String tells(int row, int day, int time, int... values) {
        StringBuilder s = new StringBuilder();
        for (int n = 0; n < values.length; n++) {
            s.append(n == 0 ? "" : "\n").append("tell " + row + " " + (day + n) + " " + values[n] + " " + time);
        }
        return s.toString();
    }

    static String types(String text) {
        StringBuilder s = new StringBuilder();
        for (int n = 0; n < text.length(); n++) s.append(n == 0 ? "" : "\n").append("type " + (int) text.charAt(n));
        return s.toString();
    }

    /** A SHEET of a TYPE with these items. */
    static String sheet(int s, int type, int... items) {
        StringBuilder b = new StringBuilder("sheet " + s + " " + type + " " + items.length);
        for (int n = 0; n < items.length; n++) b.append("\nput " + s + " " + type + " " + n + " " + items[n]);
        return b.toString();
    }

    /** Four ROWS of twelve POINTS, LEAST of ROW 3 told, all SHEETS there, a text without a FAULT, a FINDING; the last TIME is 20. */
    static String known() {
        return String.join("\n",
            tells(0, 2, 10, 5, 6, 5, 20, 21, 19, 20, 4, 3, 5, 4, 4),
            tells(1, 0, 10, 7, 7, 8, 7, -3, -4, -3, -3, 9, 9, 9, 8),
            tells(2, 28, 20, 1, 2, 3, 50, 51, 52, 2, 2, 1, 30, 31, 30),
            tells(3, 5, 20, -1000, 1000, 0, 0, 0, 5, 5, 5, 5, 9, 9, 9),
            "tell 0 3 7 20", "least 3 2",
            sheet(0, 0, 1, 2, 3, 4, 5), sheet(1, 1, 300, -9999, 7, 8), sheet(2, 2, 500, 6, 100000),
            sheet(3, 0, 9, 8, 7), types("2=5;5~18,3"), "sheet 0 0 -1");
    }

    /** 200 told: to all DAYS of a ROW five times over, the last at TIME 20. */
    static String toldFull() {
        StringBuilder s = new StringBuilder("sheet 0 2 40");
        for (int i = 0; i < 40; i++) s.append("\nput 0 2 " + i + " " + (i * 7 % 11));
        for (int n = 0; n < 5; n++) s.append("\nread 0 " + n % 4 + " 0 " + (n < 4 ? 10 : 20));
        return s.toString();
    }
}
