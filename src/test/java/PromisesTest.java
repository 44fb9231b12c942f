/** For each promise of the document: ordinary inputs, the edges that it names, and wrong inputs. */
public final class PromisesTest {
    private static final int NONE = -1, BAD = -2, NOT = -3, FULL = -4, GAP = -9999;
    private static final int NULL = -11, INDEX = -12, CAST = -13, STORE = -14, SIZE = -15;
    private static final int LOW = Integer.MIN_VALUE, HIGH = Integer.MAX_VALUE;
    private static final long LONG_BAD = Long.MIN_VALUE + 2, LONG_NOT = Long.MIN_VALUE + 3;

    private static int wrong = 0;
    private static int promise = 0;

    private static void due(String what, long got, long want) {
        if (got != want) {
            wrong++;
            System.out.println("promise " + promise + ": " + what + " answered " + got + ", due is " + want);
        }
    }

    /** The wrong numbers beside a range. */
    private static int[] beside(int low, int high) {
        return new int[] {low - 1, high + 1, LOW, HIGH};
    }

    /** A new object with the values of row 0 on the days 0, 1, .. */
    private static LevelBreaks with(int... values) {
        return more(new LevelBreaks(), 0, 0, 1, values);
    }

    private static LevelBreaks more(LevelBreaks x, int row, int firstDay, int step, int... values) {
        int time = x.count(6);
        for (int n = 0; n < values.length; n++) {
            if (x.tell(row, firstDay + n * step, values[n], time) < 0) throw new IllegalStateException("test's own fault");
        }
        return x;
    }

    private static void typeAll(LevelBreaks x, String text) {
        for (int n = 0; n < text.length(); n++) x.type(text.charAt(n));
    }

    private static LevelBreaks fill(LevelBreaks x, int s, int type, int... items) {
        x.sheet(s, type, items.length);
        for (int n = 0; n < items.length; n++) x.put(s, type, n, items[n]);
        return x;
    }

    public static void main(String[] args) {
        Runnable[] promises = {PromisesTest::newObject, PromisesTest::tell, PromisesTest::read, PromisesTest::asOf,
            PromisesTest::least, PromisesTest::value, PromisesTest::many, PromisesTest::cost, PromisesTest::best,
            PromisesTest::cut, PromisesTest::priced, PromisesTest::near, PromisesTest::common, PromisesTest::shared,
            PromisesTest::since, PromisesTest::doubt, PromisesTest::simpler, PromisesTest::together,
            PromisesTest::alarm, PromisesTest::soon, PromisesTest::limit, PromisesTest::type, PromisesTest::wipe,
            PromisesTest::fault, PromisesTest::missed, PromisesTest::sheet, PromisesTest::lose, PromisesTest::put,
            PromisesTest::get, PromisesTest::copy, PromisesTest::write, PromisesTest::count, PromisesTest::digest};
        for (Runnable test : promises) {
            promise++;
            test.run();
        }
        System.out.println(wrong == 0 ? promise + " promises hold" : wrong + " answers are not as due");
        if (wrong != 0) System.exit(1);
    }

    private static void newObject() {
        LevelBreaks x = new LevelBreaks();
        for (int what = 0; what <= 8; what++) due("count " + what, x.count(what), what == 5 ? 999 : 0);
        for (int row = 0; row < 4; row++) {
            due("many", x.many(row), 0);
            due("LEAST", x.least(row, 1), 1);
            for (int day = 0; day < 40; day++) due("value", x.value(row, day), GAP);
        }
        for (int s = 0; s < 4; s++) due("lose of a LOST one", x.lose(s), NULL);
        due("wipe", x.wipe(), 0);
        LevelBreaks y = new LevelBreaks();
        x.tell(0, 0, 1, 0);
        due("another object", y.many(0), 0);
    }

    private static void tell() {
        LevelBreaks x = new LevelBreaks();
        due("least number", x.tell(0, 0, -1000, 0), 1);
        due("greatest number", x.tell(3, 39, 1000, 3), 2);
        due("NONE", x.tell(3, 39, GAP, 3), 3);
        due("NONE is a GAP", x.value(3, 39), GAP);
        for (int row : beside(0, 3)) due("row " + row, x.tell(row, 0, 0, 3), BAD);
        for (int day : beside(0, 39)) due("day " + day, x.tell(0, day, 0, 3), BAD);
        for (int v : new int[] {-1001, 1001, -9998, -10000, LOW, HIGH}) due("value " + v, x.tell(0, 0, v, 3), BAD);
        for (int time : beside(3, 999)) due("time " + time, x.tell(0, 0, 0, time), BAD);
        due("refusals change nothing", x.count(4), 3);
        due("nor the TIME", x.count(6), 3);
        due("nor the VALUE", x.value(0, 0), -1000);
        due("a later one counts", x.tell(0, 0, 7, 3), 4);
        due("the last one at a TIME", x.value(0, 0), 7);
        for (int n = 5; n <= 200; n++) due("tell", x.tell(1, n % 40, n, 999), n);
        due("200 at most", x.tell(1, 0, 0, 999), FULL);
        due("BAD is ahead of FULL", x.tell(1, 40, 0, 999), BAD);
        due("BAD TIME is ahead of FULL", x.tell(1, 0, 0, 998), BAD);
        due("none was told", x.value(1, 0), 200);
    }

    private static void read() {
        LevelBreaks x = fill(new LevelBreaks(), 1, 1, 4, GAP, -6, 1001, 8);
        due("up to an item that may not be", x.read(1, 2, 5, 9), 3);
        due("first", x.value(2, 5), 4);
        due("NONE", x.value(2, 6), GAP);
        due("third", x.value(2, 7), -6);
        due("not the next", x.value(2, 8), GAP);
        due("nor that behind it", x.value(2, 9), GAP);
        due("told", x.count(4), 3);
        due("TIME", x.count(6), 9);
        due("to the last DAY", x.read(1, 2, 38, 9), 2);
        due("LOST", x.read(0, 2, 5, 9), NULL);
        due("the FINDING", x.count(8), 1);
        for (int s : beside(0, 3)) due("sheet", x.read(s, 0, 0, 9), BAD);
        for (int row : beside(0, 3)) due("row", x.read(1, row, 0, 9), BAD);
        for (int day : beside(0, 39)) due("day", x.read(1, 0, day, 9), BAD);
        for (int time : beside(9, 999)) due("time", x.read(1, 0, 0, time), BAD);
        due("BAD is ahead of NULL", x.read(0, 0, 0, 8), BAD);
        x.sheet(3, 0, 0);
        due("an empty SHEET", x.read(3, 0, 0, 50), 0);
        due("tells no TIME", x.count(6), 9);
        fill(x, 3, 2, 5000, 1);
        due("nothing that may be", x.read(3, 0, 0, 50), 0);
        due("tells no TIME either", x.count(6), 9);
        fill(x, 3, 0, 300, 1);
        due("bytes as they are kept", x.read(3, 0, 0, 50), 2);
        due("300 is 44", x.value(0, 0), 44);
        for (int n = x.count(4); n < 199; n++) x.tell(3, 0, 0, 50);
        due("as long as there is room", x.read(3, 0, 10, 51), 1);
        due("no room", x.read(3, 0, 10, 52), 0);
        due("the TIME of the last one told", x.count(6), 51);
    }

    private static void asOf() {
        LevelBreaks x = new LevelBreaks();
        x.tell(0, 0, 5, 10);
        x.tell(0, 0, 6, 20);
        x.tell(0, 1, 7, 20);
        x.tell(0, 0, GAP, 30);
        due("at first", x.asOf(9), 999);
        due("before", x.value(0, 0), GAP);
        due("was", x.asOf(10), 9);
        due("at its TIME", x.value(0, 0), 5);
        x.asOf(19);
        due("till the next", x.value(0, 0), 5);
        due("told later", x.many(0), 1);
        x.asOf(20);
        due("corrected", x.value(0, 0), 6);
        due("both", x.many(0), 2);
        x.asOf(30);
        due("NONE", x.many(0), 1);
        for (int time : beside(0, 999)) due("time", x.asOf(time), BAD);
        due("refused", x.asOf(0), 30);
        x.tell(0, 5, 1, 40);
        due("what is told later than that is not seen", x.value(0, 5), GAP);
        due("edge", x.asOf(999), 0);
        due("and then is", x.value(0, 5), 1);
    }

    private static void least() {
        LevelBreaks x = with(1, 1, 5, 5, 5);
        due("was", x.least(0, 2), 1);
        due("was", x.least(0, 3), 2);
        due("no CUTS", x.cut(0, 0, 2, 0), NOT);
        due("of this ROW alone", x.least(1, 10), 1);
        for (int row : beside(0, 3)) due("row", x.least(row, 1), BAD);
        for (int m : beside(1, 10)) due("m", x.least(0, m), BAD);
        due("refused", x.least(0, 1), 3);
        due("greatest", x.least(1, 1), 10);
    }

    private static void value() {
        LevelBreaks x = with(3);
        due("value", x.value(0, 0), 3);
        due("GAP", x.value(0, 1), GAP);
        due("other row", x.value(1, 0), GAP);
        for (int row : beside(0, 3)) due("row", x.value(row, 0), -10000);
        for (int day : beside(0, 39)) due("day", x.value(0, day), -10000);
    }

    private static void many() {
        LevelBreaks x = with(3, GAP, 4);
        due("many", x.many(0), 2);
        x.tell(0, 2, GAP, 0);
        due("one less", x.many(0), 1);
        x.tell(0, 0, 8, 0);
        due("told again", x.many(0), 1);
        for (int row : beside(0, 3)) due("row", x.many(row), BAD);
    }

    private static void cost() {
        LevelBreaks x = with(1, 2, 4);
        due("LEVEL above", x.cost(0, 0, 0, 2, 0), 14);
        due("LEVEL below", x.cost(0, 0, 0, 2, 1), 3);
        due("part above", x.cost(0, 0, 0, 1, 0), 1);
        due("part below", x.cost(0, 0, 0, 1, 1), 2);
        due("MIDDLE", x.cost(0, 1, 0, 2, 0), 3);
        due("MIDDLE below", x.cost(0, 1, 0, 2, 1), 1);
        due("SLOPE above", x.cost(0, 2, 0, 2, 0), 2);
        due("SLOPE below", x.cost(0, 2, 0, 2, 1), 3);
        due("ONE", x.cost(0, 3, 0, 2, 0), 2);
        due("one POINT", x.cost(0, 2, 1, 1, 0), 0);
        due("0 by 1", x.cost(0, 0, 1, 1, 1), 1);
        LevelBreaks even = with(11, 1, 10, 2);
        due("MIDDLE of an even number", even.cost(0, 1, 0, 3, 0), 18);
        due("lowest terms above", even.cost(0, 0, 0, 3, 0), 82);
        due("lowest terms below", even.cost(0, 0, 0, 3, 1), 1);
        due("steepest up", with(0, 100).cost(0, 2, 0, 1, 0), 3200);
        due("steepest down", with(100, 0).cost(0, 2, 0, 1, 0), 3200);
        due("20 is enough", with(0, 20, 40).cost(0, 2, 0, 2, 0), 0);
        due("by DAYS, not POINTS", with(0, GAP, 8, 12, GAP, 20).cost(0, 2, 0, 3, 0), 0);
        due("ONE of pairs", with(5, 6, 5, 6, 7).cost(0, 3, 0, 4, 0), 3);
        due("MIDDLE of the greatest", with(1000, 1000, -1000, 1000).cost(0, 1, 0, 3, 0), 2000);
        int[] same = new int[40];
        due("ONE of all DAYS alike", with(same).cost(0, 3, 0, 39, 0), 0);
        due("MIDDLE of all DAYS alike", with(same).cost(0, 1, 0, 39, 0), 0);
        LevelBreaks wide = new LevelBreaks();
        for (int d = 0; d < 40; d++) wide.tell(1, d, d % 2 == 0 ? 1000 : -1000, 0);
        due("the widest", wide.cost(1, 0, 0, 39, 0), 40000000);
        due("LEAST does not count here", x.least(0, 10) + x.cost(0, 0, 0, 0, 1), 2);
        for (int row : beside(0, 3)) due("row", x.cost(row, 0, 0, 0, 0), LONG_BAD);
        for (int kind : beside(0, 3)) due("kind", x.cost(0, kind, 0, 0, 0), LONG_BAD);
        for (int p : beside(0, 2)) due("a " + p, x.cost(0, 0, p, 2, 0), LONG_BAD);
        for (int p : beside(0, 2)) due("b " + p, x.cost(0, 0, 0, p, 0), LONG_BAD);
        due("a above b", x.cost(0, 0, 2, 1, 0), LONG_BAD);
        for (int what : beside(0, 1)) due("what", x.cost(0, 0, 0, 0, what), LONG_BAD);
        due("no POINTS", x.cost(1, 0, 0, 0, 0), LONG_BAD);
    }

    private static void best() {
        LevelBreaks x = with(0, 1, 10, 12, 11);
        due("two above", x.best(0, 0, 2, 0), 5);
        due("two below", x.best(0, 0, 2, 1), 2);
        due("one", x.best(0, 0, 1, 0), 674);
        due("one below", x.best(0, 0, 1, 1), 5);
        due("three, unlike parts together", with(0, 1, 9, 8, 9).best(0, 0, 2, 0), 7);
        due("and below", with(0, 1, 9, 8, 9).best(0, 0, 2, 1), 6);
        due("as many as POINTS", x.best(0, 0, 5, 0), 0);
        due("0 by 1", x.best(0, 0, 5, 1), 1);
        due("more than POINTS", x.best(0, 0, 6, 0), LONG_NOT);
        due("MIDDLE", x.best(0, 1, 2, 0), 3);
        due("SLOPE", x.best(0, 2, 2, 0), 2);
        due("ONE", x.best(0, 3, 2, 0), 3);
        x.least(0, 2);
        due("N is k times LEAST and more", x.best(0, 0, 2, 0), 5);
        due("N is less", x.best(0, 0, 3, 1), LONG_NOT);
        due("no POINTS", x.best(1, 0, 1, 0), LONG_NOT);
        for (int row : beside(0, 3)) due("row", x.best(row, 0, 1, 0), LONG_BAD);
        for (int kind : beside(0, 3)) due("kind", x.best(0, kind, 1, 0), LONG_BAD);
        for (int k : beside(1, 6)) due("k", x.best(0, 0, k, 0), LONG_BAD);
        for (int what : beside(0, 1)) due("what", x.best(0, 0, 1, what), LONG_BAD);
        due("BAD is ahead of NOT", x.best(1, 0, 1, 2), LONG_BAD);
    }

    private static void cut() {
        LevelBreaks x = more(new LevelBreaks(), 2, 3, 4, 0, 0, 9, 9, 9, 4);
        due("the first", x.cut(2, 0, 3, 0), 3);
        due("the second", x.cut(2, 0, 3, 1), 11);
        due("the third", x.cut(2, 0, 3, 2), 23);
        due("of like ones the least", x.cut(2, 0, 4, 1), 7);
        due("then the third", x.cut(2, 0, 4, 2), 11);
        due("then the fourth", x.cut(2, 0, 4, 3), 23);
        LevelBreaks halves = with(0, 1, 2, 2, 1, 0);
        due("1 is as much as two halves", halves.cut(0, 0, 3, 1), 1);
        due("then the third", halves.cut(0, 0, 3, 2), 5);
        x.least(2, 2);
        due("by LEAST", x.cut(2, 0, 3, 2), 19);
        due("one is all", x.cut(2, 3, 1, 0), 3);
        due("NOT", x.cut(2, 0, 4, 0), NOT);
        due("no POINTS", x.cut(0, 0, 1, 0), NOT);
        for (int i : beside(0, 2)) due("i", x.cut(2, 0, 3, i), BAD);
        for (int row : beside(0, 3)) due("row", x.cut(row, 0, 1, 0), BAD);
        for (int kind : beside(0, 3)) due("kind", x.cut(2, kind, 1, 0), BAD);
        for (int k : beside(1, 6)) due("k", x.cut(2, 0, k, 0), BAD);
        due("BAD is ahead of NOT", x.cut(0, 0, 4, 4), BAD);
    }

    private static void priced() {
        LevelBreaks x = with(0, 10);
        due("cheap", x.priced(0, 0, 49), 2);
        due("of like ones the least", x.priced(0, 0, 50), 1);
        due("for nothing", x.priced(0, 0, 0), 2);
        due("dearest", x.priced(0, 0, 1000000), 1);
        due("ONE", x.priced(0, 3, 0), 2);
        due("ONE for 1", x.priced(0, 3, 1), 1);
        due("fractions count", with(0, 1).priced(0, 0, 0), 2);
        due("a half is less than 1", with(0, 1).priced(0, 0, 1), 1);
        due("six at most", with(0, 1, 2, 3, 4, 5, 6, 7).priced(0, 3, 0), 6);
        x.least(0, 2);
        due("as many as LEAST lets", x.priced(0, 0, 0), 1);
        x.least(0, 3);
        due("N is below LEAST", x.priced(0, 0, 0), NOT);
        due("no POINTS", x.priced(1, 0, 0), NOT);
        for (int row : beside(0, 3)) due("row", x.priced(row, 0, 0), BAD);
        for (int kind : beside(0, 3)) due("kind", x.priced(0, kind, 0), BAD);
        for (int price : beside(0, 1000000)) due("price", x.priced(0, 0, price), BAD);
    }

    private static void near() {
        LevelBreaks x = with(0, 2, 6);
        due("twice as dear", x.near(0, 1, 2, 100), 2);
        due("not quite", x.near(0, 1, 2, 99), 1);
        LevelBreaks y = with(0, 3, 10);
        due("7 is above 3 and 133 hundredths", y.near(0, 1, 2, 133), 1);
        due("and within 134", y.near(0, 1, 2, 134), 2);
        LevelBreaks flat = with(5, 5, 5, 5, 5);
        due("all two", flat.near(0, 0, 2, 0), 4);
        due("all three", flat.near(0, 0, 3, 0), 6);
        flat.least(0, 2);
        due("by LEAST", flat.near(0, 0, 2, 1000), 2);
        due("NOT", flat.near(0, 0, 3, 0), NOT);
        LevelBreaks thirds = with(0, 0, 3, 3);
        due("LEVEL", thirds.near(0, 0, 2, 1000), 1);
        due("three of them", thirds.near(0, 0, 3, 0), 2);
        LevelBreaks parts = with(0, 0, 1, 2);
        due("two thirds are above 133 hundredths of a half", parts.near(0, 0, 2, 33), 1);
        due("and within 134", parts.near(0, 0, 2, 34), 2);
        LevelBreaks seven = with(5, 5, 5, 5, 5, 5, 5);
        seven.least(0, 2);
        due("LEAST of all three", seven.near(0, 0, 3, 0), 3);
        due("no POINTS", x.near(1, 0, 2, 0), NOT);
        for (int row : beside(0, 3)) due("row", x.near(row, 0, 2, 0), BAD);
        for (int kind : beside(0, 3)) due("kind", x.near(0, kind, 2, 0), BAD);
        for (int k : beside(2, 3)) due("k", x.near(0, 0, k, 0), BAD);
        for (int p : beside(0, 1000)) due("p", x.near(0, 0, 2, p), BAD);
    }

    /** Rows 0 and 2 change on the days 4 and 6; row 3 has two points alone. */
    private static LevelBreaks threeRows() {
        LevelBreaks x = with(1, 1, 1, 1, 8, 8, 8, 8);
        more(x, 2, 3, 1, 5, 5, 5, 9, 9, 9);
        return more(x, 3, 10, 20, 4, 4);
    }

    private static void common() {
        LevelBreaks x = threeRows();
        due("one ROW", x.common(1, 1, 2), 0);
        due("two by MIDDLE", x.common(5, 1, 2), 8);
        due("two by ONE", x.common(5, 3, 2), 2);
        due("into three", x.common(5, 1, 3), 0);
        due("into one", x.common(5, 3, 1), 4 + 3);
        due("no DAY has POINTS of all in both", x.common(13, 1, 2), NOT);
        due("into one of all three", x.common(13, 1, 1), 28 + 12);
        x.least(2, 3);
        due("by LEAST of that ROW", x.common(5, 1, 2), 14);
        due("LEAST of all STRETCHES", x.common(5, 1, 3), NOT);
        due("a ROW without POINTS", x.common(3, 1, 1), NOT);
        for (int rows : beside(1, 15)) due("rows", x.common(rows, 1, 1), BAD);
        for (int kind : new int[] {-1, 0, 2, 4}) due("kind", x.common(1, kind, 1), BAD);
        for (int k : beside(1, 6)) due("k", x.common(1, 1, k), BAD);
    }

    private static void shared() {
        LevelBreaks x = threeRows();
        due("the first", x.shared(5, 1, 2, 0), 0);
        due("of like ones (4 and 5) the least", x.shared(5, 3, 2, 1), 4);
        due("where it costs least", x.shared(5, 1, 2, 1), 4);
        x.least(2, 3);
        due("where LEAST lets it", x.shared(5, 1, 2, 1), 6);
        x.least(2, 1);
        due("into three", x.shared(5, 1, 3, 1), 4);
        due("the third", x.shared(5, 1, 3, 2), 6);
        due("DAYS, though without a POINT", x.shared(8, 1, 2, 1), 11);
        due("the last DAY", more(new LevelBreaks(), 3, 38, 1, 4, 5).shared(8, 1, 2, 1), 39);
        due("all ROWS", more(new LevelBreaks(), 3, 38, 1, 4, 5).shared(15, 1, 2, 1), NOT);
        due("NOT", x.shared(13, 1, 2, 0), NOT);
        for (int i : beside(0, 1)) due("i", x.shared(5, 1, 2, i), BAD);
        for (int rows : beside(1, 15)) due("rows", x.shared(rows, 1, 1, 0), BAD);
        for (int kind : new int[] {-1, 0, 2, 4}) due("kind", x.shared(1, kind, 1, 0), BAD);
        for (int k : beside(1, 6)) due("k", x.shared(1, 1, k, 0), BAD);
    }

    private static void since() {
        LevelBreaks x = new LevelBreaks();
        x.tell(0, 0, 0, 5);
        x.tell(0, 1, 0, 5);
        x.tell(0, 2, 9, 7);
        x.tell(1, 2, 9, 8);
        x.tell(0, 3, 9, 9);
        due("since the third came", x.since(0, 0, 2), 7);
        due("into one: since its first", x.since(0, 0, 1), 5);
        due("into three", x.since(0, 0, 3), 7);
        x.tell(0, 1, 9, 20);
        due("corrected", x.since(0, 0, 2), 20);
        x.tell(0, 1, 0, 30);
        due("corrected back: not since before", x.since(0, 0, 2), 30);
        x.asOf(19);
        due("as of then", x.since(0, 0, 2), 7);
        x.asOf(8);
        due("at that TIME", x.since(0, 0, 2), 7);
        x.asOf(6);
        due("two POINTS", x.since(0, 0, 2), 5);
        due("NOT now", x.since(0, 0, 3), NOT);
        x.asOf(4);
        due("nothing yet", x.since(0, 0, 1), NOT);
        LevelBreaks same = new LevelBreaks();
        same.tell(0, 0, 0, 0);
        same.tell(0, 0, 500, 0);
        due("from the first TIME on", same.since(0, 0, 1), 0);
        for (int row : beside(0, 3)) due("row", x.since(row, 0, 1), BAD);
        for (int kind : beside(0, 3)) due("kind", x.since(0, kind, 1), BAD);
        for (int k : beside(1, 6)) due("k", x.since(0, 0, k), BAD);
    }

    private static void doubt() {
        due("two of six", with(0, 0, 1, 1).doubt(0, 2, 1), 333333);
        due("one of three, both ways", with(0, 0, 9).doubt(0, 2, 1), 333333);
        due("one of ten", with(0, 5, 5, 10, 10).doubt(0, 2, 1), 100000);
        due("all alike: all ways", with(4, 4, 4).doubt(0, 2, 1), 1000000);
        LevelBreaks three = with(0, 0, 9, 9, 30, 30);
        due("the second cut", three.doubt(0, 3, 2), 333333);
        LevelBreaks x = new LevelBreaks();
        for (int d = 0; d < 16; d++) x.tell(0, d, d / 8, 0);
        due("16 POINTS", x.doubt(0, 2, 1), 155);
        x.tell(0, 16, 1, 0);
        due("17 POINTS", x.doubt(0, 2, 1), FULL);
        due("17 POINTS, but not of these two", x.doubt(0, 3, 1) == FULL ? 1 : 0, 0);
        due("no POINTS", x.doubt(1, 2, 1), NOT);
        for (int row : beside(0, 3)) due("row", x.doubt(row, 2, 1), BAD);
        for (int k : beside(1, 6)) due("k", x.doubt(0, k, 1), BAD);
        due("one has no cut", x.doubt(0, 1, 1), BAD);
        for (int i : beside(1, 2)) due("i", x.doubt(0, 3, i), BAD);
    }

    private static void simpler() {
        LevelBreaks x = more(new LevelBreaks(), 1, 2, 3, 5, 5, 9, 5, 5);
        due("the odd one", x.simpler(1, 0, 1, 1, 0), 8);
        due("of two, of like ones the least", x.simpler(1, 0, 1, 2, 0), 2);
        due("and it", x.simpler(1, 0, 1, 2, 1), 8);
        LevelBreaks two = with(1, 1, 50, 1, 8, 8, -50, 8);
        due("two odd ones", two.simpler(0, 1, 2, 2, 0), 2);
        due("the other", two.simpler(0, 1, 2, 2, 1), 6);
        LevelBreaks like = with(3, 3, 3);
        due("the least DAYS", like.simpler(0, 3, 1, 2, 1), 1);
        due("N less q is k", like.simpler(0, 0, 2, 1, 0), 0);
        due("N less q is below k", like.simpler(0, 0, 2, 2, 0), NOT);
        like.least(0, 2);
        due("below k times LEAST", like.simpler(0, 0, 1, 2, 0), NOT);
        due("as many as LEAST", like.simpler(0, 0, 1, 1, 0), 0);
        due("one POINT", with(3).simpler(0, 0, 1, 1, 0), NOT);
        due("no POINTS", x.simpler(0, 0, 1, 1, 0), NOT);
        LevelBreaks held = with(0, 9, 9, 9);
        held.least(0, 2);
        due("LEAST counts what is left", held.simpler(0, 3, 1, 2, 0), 0);
        LevelBreaks middle = with(9, 10, 1, 5);
        due("MIDDLE: the nearest two are left", middle.simpler(0, 1, 1, 2, 0), 2);
        due("without the other two", middle.simpler(0, 1, 1, 2, 1), 3);
        LevelBreaks slope = with(0, 3, 99, 9, 12, 50);
        due("SLOPE: off the line", slope.simpler(0, 2, 1, 2, 0), 2);
        due("and off it", slope.simpler(0, 2, 1, 2, 1), 5);
        LevelBreaks one = with(5, 5, 5, 4, 4, 5);
        due("ONE: both others", one.simpler(0, 3, 1, 2, 0), 3);
        due("ONE: the second", one.simpler(0, 3, 1, 2, 1), 4);
        due("ONE: one other", with(5, 5, 6, 5, 7).simpler(0, 3, 1, 1, 0), 2);
        due("ONE: two of the most", with(4, 4, 4, 4, 5, 5, 5, 5).simpler(0, 3, 2, 2, 1), 1);
        for (int row : beside(0, 3)) due("row", x.simpler(row, 0, 1, 1, 0), BAD);
        for (int kind : beside(0, 3)) due("kind", x.simpler(1, kind, 1, 1, 0), BAD);
        for (int k : beside(1, 6)) due("k", x.simpler(1, 0, k, 1, 0), BAD);
        for (int q : beside(1, 2)) due("q", x.simpler(1, 0, 1, q, 0), BAD);
        for (int i : beside(0, 0)) due("i of 1", x.simpler(1, 0, 1, 1, i), BAD);
        for (int i : beside(0, 1)) due("i of 2", x.simpler(1, 0, 1, 2, i), BAD);
    }

    private static void together() {
        LevelBreaks x = with(0, 0, 0, 9, 9, 9, 30, 30, 30);
        more(x, 1, 10, 1, 0, 0, 9, 9, 30, 30);
        more(x, 2, 0, 1, 4, 4, 7, 7, 1, 1);
        due("days 3, 6 from 2, 4: none", x.together(0, 2, 0, 3, 0, 0), 0);
        due("3 is near 2 and 4", x.together(0, 2, 0, 3, 1, 0), 1);
        due("both", x.together(0, 2, 0, 3, 2, 0), 2);
        due("the other way, both", x.together(2, 0, 0, 3, 2, 0), 2);
        due("the other way, near by 1", x.together(2, 0, 0, 3, 1, 0), 2);
        // near 2 or 4 by 1: the days 1 to 5, of 39; not one of two is near in 34 * 33 of 39 * 38 ways
        due("CHANCE of one at least", x.together(0, 2, 0, 3, 1, 1), 242914);
        // near 3 or 6 by 1: the days 2 to 7
        due("CHANCE of both", x.together(2, 0, 0, 3, 1, 1), 20242);
        due("CHANCE of none at least", x.together(0, 2, 0, 3, 0, 1), 1000000);
        due("9 days: 3 from 12", x.together(0, 1, 0, 3, 9, 0), 2);
        due("8 days", x.together(0, 1, 0, 3, 8, 0), 1);
        LevelBreaks late = more(more(new LevelBreaks(), 0, 38, 1, 0, 9), 1, 0, 39, 0, 9);
        due("on the last DAY", late.together(0, 1, 0, 2, 0, 1), 25641);
        due("no DAY behind the last", late.together(0, 1, 0, 2, 1, 1), 51282);
        due("other way", more(late, 0, 0, 1, 0).together(1, 0, 0, 2, 9, 1), 256410);
        due("no POINTS of the other", x.together(0, 3, 0, 2, 0, 0), NOT);
        due("no POINTS of the first", x.together(3, 0, 0, 2, 0, 0), NOT);
        for (int row : beside(0, 3)) due("row", x.together(row, 0, 0, 2, 0, 0), BAD);
        for (int row : beside(0, 3)) due("other", x.together(0, row, 0, 2, 0, 0), BAD);
        due("itself", x.together(1, 1, 0, 2, 0, 0), BAD);
        for (int kind : beside(0, 3)) due("kind", x.together(0, 1, kind, 2, 0, 0), BAD);
        for (int k : beside(2, 6)) due("k", x.together(0, 1, 0, k, 0, 0), BAD);
        for (int r : beside(0, 9)) due("r", x.together(0, 1, 0, 2, r, 0), BAD);
        for (int what : beside(0, 1)) due("what", x.together(0, 1, 0, 2, 0, what), BAD);
        due("BAD is ahead of NOT", x.together(3, 0, 0, 2, 0, 2), BAD);
    }

    private static void alarm() {
        LevelBreaks x = with(5, GAP, 5, -9, 5, 5, 5);
        due("by 10", x.alarm(0, 0, 0, 10, 0, NONE), 2);
        due("comes to LIMIT on day 2", x.alarm(0, 0, 0, 10, 0, 2), 1);
        due("none in a GAP", x.alarm(0, 0, 0, 10, 0, 1), 0);
        due("from 0 on again", x.alarm(0, 0, 0, 10, 0, 5), 1);
        due("none behind it", x.alarm(0, 0, 0, 10, 0, 6), 0);
        due("above LIMIT", x.alarm(0, 0, 0, 9, 0, 2), 1);
        due("11 is too much for two", x.alarm(0, 0, 0, 11, 0, NONE), 1);
        due("0 at least", x.alarm(0, 0, 0, 15, 0, 6), 1);
        due("SLACK", x.alarm(0, 0, 2, 6, 0, NONE), 2);
        due("TARGET", x.alarm(0, 4, 0, 2, 0, NONE), 2);
        due("down", x.alarm(0, 0, 0, 9, 1, NONE), 1);
        due("down on its DAY", x.alarm(0, 0, 0, 9, 1, 3), 1);
        due("down by a TARGET", x.alarm(0, 6, 0, 1, 1, NONE), 6);
        due("last DAY", x.alarm(0, 0, 0, 1, 0, 39), 0);
        due("edges", x.alarm(0, -1000, 1000, 100000, 0, 0), 0);
        due("no POINTS", x.alarm(1, 0, 0, 1, 0, NONE), 0);
        for (int row : beside(0, 3)) due("row", x.alarm(row, 0, 0, 1, 0, NONE), BAD);
        for (int t : beside(-1000, 1000)) due("target", x.alarm(0, t, 0, 1, 0, NONE), BAD);
        for (int s : beside(0, 1000)) due("slack", x.alarm(0, 0, s, 1, 0, NONE), BAD);
        for (int l : beside(1, 100000)) due("limit", x.alarm(0, 0, 0, l, 0, NONE), BAD);
        for (int w : beside(0, 1)) due("way", x.alarm(0, 0, 0, 1, w, NONE), BAD);
        for (int d : beside(-1, 39)) due("day", x.alarm(0, 0, 0, 1, 0, d), BAD);
    }

    private static void soon() {
        LevelBreaks x = with(5, GAP, 5, -9, 5, 5, 5);
        due("to the first", x.soon(0, 0, 0, 10, 0, 0, 0), 2);
        due("on it", x.soon(0, 0, 0, 10, 0, 2, 0), 0);
        due("to the second", x.soon(0, 0, 0, 10, 0, 3, 0), 2);
        due("none is left", x.soon(0, 0, 0, 10, 0, 6, 0), NONE);
        due("none before", x.soon(0, 0, 0, 10, 0, 2, 1), 0);
        due("one before", x.soon(0, 0, 0, 10, 0, 3, 1), 1);
        due("two before", x.soon(0, 0, 0, 10, 0, 39, 1), 2);
        for (int row : beside(0, 3)) due("row", x.soon(row, 0, 0, 1, 0, 0, 0), BAD);
        for (int t : beside(-1000, 1000)) due("target", x.soon(0, t, 0, 1, 0, 0, 0), BAD);
        for (int s : beside(0, 1000)) due("slack", x.soon(0, 0, s, 1, 0, 0, 0), BAD);
        for (int l : beside(1, 100000)) due("limit", x.soon(0, 0, 0, l, 0, 0, 0), BAD);
        for (int w : beside(0, 1)) due("way", x.soon(0, 0, 0, 1, w, 0, 0), BAD);
        for (int d : beside(0, 39)) due("day", x.soon(0, 0, 0, 1, 0, d, 0), BAD);
        for (int what : beside(0, 1)) due("what", x.soon(0, 0, 0, 1, 0, 0, what), BAD);
    }

    private static void limit() {
        LevelBreaks x = with(5, GAP, 5, -9, 5, 5, 5);
        due("the least of all", x.limit(0, 0, 0, 0, 0), 1);
        due("above 5", x.limit(0, 0, 0, 0, 2), 6);
        due("above 10", x.limit(0, 0, 0, 0, 3), 11);
        due("above 11, but 16 comes", x.limit(0, 0, 0, 0, 6), 12);
        due("none comes", x.limit(0, 0, 0, 0, 7), NONE);
        due("down", x.limit(0, 0, 0, 1, 1), 1);
        LevelBreaks high = with(1000, 999, 1, 1000);
        due("2000", high.limit(0, 0, 0, 0, 2), 2000);
        due("2001 is above all LIMITS", high.limit(0, 0, 0, 0, 3), NONE);
        due("no POINTS", x.limit(1, 0, 0, 0, 0), NONE);
        for (int row : beside(0, 3)) due("row", x.limit(row, 0, 0, 0, 0), BAD);
        for (int t : beside(-1000, 1000)) due("target", x.limit(0, t, 0, 0, 0), BAD);
        for (int s : beside(0, 1000)) due("slack", x.limit(0, 0, s, 0, 0), BAD);
        for (int w : beside(0, 1)) due("way", x.limit(0, 0, 0, w, 0), BAD);
        for (int d : beside(0, 39)) due("day", x.limit(0, 0, 0, 0, d), BAD);
    }

    private static void type() {
        LevelBreaks x = new LevelBreaks();
        for (int b : beside(0, 255)) due("byte", x.type(b), BAD);
        for (int n = 1; n <= 100; n++) due("type", x.type(n % 2 * 255), n);
        due("101", x.type(1), FULL);
        due("BAD is ahead of FULL", x.type(256), BAD);
        due("bytes", x.count(7), 100);
    }

    private static void wipe() {
        LevelBreaks x = new LevelBreaks();
        due("empty", x.wipe(), 0);
        typeAll(x, "1=2");
        due("three", x.wipe(), 3);
        due("wiped", x.count(7), 0);
        typeAll(x, "3=4");
        due("typed anew", x.fault(), NONE);
    }

    private static void faultOf(String text, int place) {
        LevelBreaks x = new LevelBreaks();
        typeAll(x, text);
        due("fault of " + text, x.fault(), place);
    }

    private static void fault() {
        for (String text : new String[] {"0=0", "39=1000", "1=-1000", "07~-5,1000", "1=0;2=0;03~1,2", "9=0001",
            "1~2,-0", "1=-0", "1~-0000,0000;39=5"}) {
            faultOf(text, NONE);
        }
        faultOf("", 0);
        faultOf("x", 0);
        faultOf("-1=2", 0);
        faultOf("=2", 0);
        faultOf("1", 1);
        faultOf("12", 2);
        faultOf("123=1", 2);
        faultOf("1;", 1);
        faultOf("1=", 2);
        faultOf("1=x", 2);
        faultOf("1=-", 3);
        faultOf("1=--1", 3);
        faultOf("1=+1", 2);
        faultOf("1= 1", 2);
        faultOf("1=1,1", 3);
        faultOf("1~1", 3);
        faultOf("1~1;2=1", 3);
        faultOf("1~1,", 4);
        faultOf("1~1,1,1", 5);
        faultOf("1=1;", 4);
        faultOf("1=1;;", 4);
        faultOf("1=1 ", 3);
        faultOf("1=00001", 6);
        faultOf("1=10000", 6);
        faultOf("1=1001", 2);
        faultOf("1=-1001", 2);
        faultOf("1=9999x", 2);
        faultOf("1=12345", 2);
        faultOf("1~5,1001", 4);
        faultOf("1~5,-1", 4);
        faultOf("1~1001,-1", 2);
        faultOf("40=1", 0);
        faultOf("99", 0);
        faultOf("5=1;40=1", 4);
        faultOf("5=1;5=1", 4);
        faultOf("5=1;4", 4);
        faultOf("5=1;05=1", 4);
        faultOf("5=1;6", 5);
        faultOf(((char) 178) + "=1", 0);
        StringBuilder many = new StringBuilder("0=1");
        for (int day = 1; day < 20; day++) many.append(';').append(day).append("=1");
        faultOf(many.toString(), NONE);
    }

    private static int missedOf(String text, int what, int... values) {
        LevelBreaks x = with(values);
        typeAll(x, text);
        return x.missed(0, what);
    }

    private static void missed() {
        due("off 2 and 3", missedOf("0=5", 0, 3, 5, 8), 5);
        due("the worst", missedOf("0=5", 1, 3, 5, 8), 2);
        due("of like ones the first", missedOf("0=5", 1, 8, 5, 2), 0);
        due("none is off", missedOf("0=5", 1, 5, 5), NONE);
        due("nothing missed", missedOf("0=5", 0, 5, 5), 0);
        due("within", missedOf("0~5,3", 0, 2, 8), 0);
        due("beyond", missedOf("0~5,3", 0, 1, 10), 1 + 2);
        due("the next part", missedOf("0=1;2=3", 0, 1, 1, 3, 3), 0);
        due("not before its DAY", missedOf("0=1;2=3", 0, 3, 3, 3), 4);
        due("DAYS ahead are aside", missedOf("2=5", 0, 900, 900, 6), 1);
        due("and for WORST", missedOf("2=5", 1, 900, 900, 6), 2);
        due("GAPS are aside", missedOf("0=5", 0, GAP, 5), 0);
        due("the widest", missedOf("0=-1000", 0, 1000, 1000), 4000);
        due("a FAULT", missedOf("0=5;", 0, 5), NOT);
        due("no text", missedOf("", 0, 5), NOT);
        LevelBreaks x = with(1);
        for (int row : beside(0, 3)) due("row", x.missed(row, 0), BAD);
        for (int what : beside(0, 1)) due("what", x.missed(0, what), BAD);
        typeAll(x, "0=3");
        due("as it is known", x.missed(0, 0), 2);
        x.tell(0, 0, 3, 5);
        due("corrected", x.missed(0, 0), 0);
        due("no POINTS", x.missed(1, 0), 0);
        due("no POINTS, no WORST", x.missed(1, 1), NONE);
    }

    private static void sheet() {
        LevelBreaks x = new LevelBreaks();
        due("empty", x.sheet(0, 0, 0), 0);
        due("largest", x.sheet(3, 2, 60), 60);
        due("at first 0", x.get(3, 2, 59), 0);
        x.put(3, 2, 59, 7);
        due("new again", x.sheet(3, 2, 60), 60);
        due("0 again", x.get(3, 2, 59), 0);
        due("another TYPE", x.sheet(3, 1, 2), 2);
        due("it has it", x.put(3, 1, 1, 5), 1);
        due("no finding yet", x.count(8), 0);
        for (int s : beside(0, 3)) due("sheet", x.sheet(s, 0, -1), BAD);
        for (int type : beside(0, 2)) due("type", x.sheet(0, type, -1), BAD);
        for (int n : new int[] {61, HIGH}) due("above 60", x.sheet(0, 0, n), BAD);
        due("BAD is no FINDING", x.count(8), 0);
        due("below 0", x.sheet(3, 0, -1), SIZE);
        due("far below 0", x.sheet(3, 0, LOW), SIZE);
        due("the FINDING", x.count(8), 5);
        due("it is as it was", x.get(3, 1, 1), 5);
    }

    private static void lose() {
        LevelBreaks x = new LevelBreaks();
        x.sheet(1, 0, 7);
        due("seven", x.lose(1), 7);
        due("LOST", x.lose(1), NULL);
        due("the FINDING", x.count(8), 1);
        x.sheet(1, 0, 0);
        due("an empty one is not LOST", x.lose(1), 0);
        for (int s : beside(0, 3)) due("sheet", x.lose(s), BAD);
    }

    private static void put() {
        LevelBreaks x = new LevelBreaks();
        x.sheet(0, 0, 3);
        x.sheet(1, 1, 3);
        x.sheet(2, 2, 3);
        due("byte", x.put(0, 0, 2, 200), 1);
        due("lowest 8 bits", x.get(0, 0, 2), -56);
        due("short", x.put(1, 1, 0, 40000), 1);
        due("lowest 16 bits", x.get(1, 1, 0), -25536);
        due("int", x.put(2, 2, 0, LOW), 1);
        due("all bits", x.get(2, 2, 0), LOW);
        for (int i : beside(0, 2)) due("item", x.put(0, 0, i, 1), INDEX);
        due("the FINDING", x.count(8), 2);
        due("another TYPE", x.put(0, 1, 0, 1), CAST);
        due("the FINDING", x.count(8), 3);
        due("CAST is ahead of INDEX", x.put(0, 2, 9, 1), CAST);
        due("LOST", x.put(3, 0, 9, 1), NULL);
        for (int s : beside(0, 3)) due("sheet", x.put(s, 0, 0, 1), BAD);
        for (int type : beside(0, 2)) due("type", x.put(3, type, 0, 1), BAD);
        due("nothing else was put", x.get(0, 0, 0), 0);
    }

    private static void get() {
        LevelBreaks x = fill(new LevelBreaks(), 2, 1, 5, -6);
        due("first", x.get(2, 1, 0), 5);
        due("second", x.get(2, 1, 1), -6);
        for (int s : beside(0, 3)) due("sheet", x.get(s, 1, 0), LOW);
        for (int type : beside(0, 2)) due("type", x.get(2, type, 0), LOW);
        due("BAD is no FINDING", x.count(8), 0);
        due("LOST", x.get(0, 1, 0), LOW);
        due("NULL", x.count(8), 1);
        due("another TYPE", x.get(2, 0, 5), LOW);
        due("CAST", x.count(8), 3);
        for (int i : beside(0, 1)) due("item", x.get(2, 1, i), LOW);
        due("INDEX", x.count(8), 2);
    }

    private static void copy() {
        LevelBreaks x = fill(new LevelBreaks(), 0, 0, 1, 2, 3, 4);
        x.sheet(1, 0, 2);
        due("to another", x.copy(0, 1, 1, 0, 2), 1);
        due("first", x.get(1, 0, 0), 2);
        due("second", x.get(1, 0, 1), 3);
        due("up in itself", x.copy(0, 0, 0, 1, 3), 1);
        for (int i = 0; i < 4; i++) due("as they were " + i, x.get(0, 0, i), Math.max(1, i));
        due("down in itself", x.copy(0, 2, 0, 0, 2), 1);
        for (int i = 0; i < 4; i++) due("as they were " + i, x.get(0, 0, i), new int[] {2, 3, 2, 3}[i]);
        due("none, at the end", x.copy(0, 4, 1, 2, 0), 1);
        due("i below 0", x.copy(0, -1, 1, 0, 1), INDEX);
        due("j below 0", x.copy(0, 0, 1, -1, 1), INDEX);
        due("n below 0", x.copy(0, 0, 1, 0, -1), INDEX);
        due("not so many in s", x.copy(1, 1, 0, 0, 2), INDEX);
        due("not so many in t", x.copy(0, 0, 1, 1, 2), INDEX);
        due("none, behind the end", x.copy(0, 5, 1, 0, 0), INDEX);
        due("far too many", x.copy(0, HIGH, 1, HIGH, HIGH), INDEX);
        due("far below", x.copy(0, LOW, 1, LOW, LOW), INDEX);
        due("wraps", x.copy(0, 1, 1, 0, HIGH), INDEX);
        due("the FINDING", x.count(8), 2);
        x.sheet(2, 1, 2);
        due("unlike TYPES", x.copy(0, -1, 2, 0, 0), STORE);
        due("the FINDING", x.count(8), 4);
        due("s is LOST", x.copy(3, 0, 0, 0, 0), NULL);
        due("t is LOST", x.copy(0, -1, 3, 0, 0), NULL);
        for (int s : beside(0, 3)) due("s", x.copy(s, 0, 3, 0, 0), BAD);
        for (int t : beside(0, 3)) due("t", x.copy(3, 0, t, 0, 0), BAD);
    }

    private static void write() {
        LevelBreaks x = with(300, GAP, -7);
        x.tell(0, 39, 9, 0);
        x.sheet(0, 0, 60);
        due("as many as DAYS", x.write(0, 0), 40);
        due("lowest bits", x.get(0, 0, 0), 44);
        due("GAP in bytes", x.get(0, 0, 1), -15);
        due("value", x.get(0, 0, 2), -7);
        due("last DAY", x.get(0, 0, 39), 9);
        due("not behind it", x.get(0, 0, 40), 0);
        x.sheet(1, 1, 2);
        due("as many as items", x.write(0, 1), 2);
        due("GAP in shorts", x.get(1, 1, 1), GAP);
        x.sheet(1, 2, 0);
        due("none", x.write(0, 1), 0);
        due("LOST", x.write(0, 2), NULL);
        due("the FINDING", x.count(8), 1);
        for (int row : beside(0, 3)) due("row", x.write(row, 2), BAD);
        for (int s : beside(0, 3)) due("sheet", x.write(0, s), BAD);
    }

    private static void count() {
        LevelBreaks x = with(1, 2, 3);
        more(x, 3, 0, 1, 4, GAP);
        x.tell(2, 0, 5, 77);
        due("N of 0", x.count(0), 3);
        due("N of 1", x.count(1), 0);
        due("N of 2", x.count(2), 1);
        due("N of 3", x.count(3), 1);
        due("told", x.count(4), 6);
        due("AS OF", x.count(5), 999);
        x.asOf(76);
        due("AS OF", x.count(5), 76);
        due("N as of then", x.count(2), 0);
        due("told all the same", x.count(4), 6);
        due("TIME told last", x.count(6), 77);
        x.type(1);
        due("bytes", x.count(7), 1);
        due("no FINDING", x.count(8), 0);
        x.lose(0);
        due("NULL", x.count(8), 1);
        x.sheet(0, 0, 1);
        due("the latest stays", x.count(8), 1);
        for (int what : beside(0, 8)) due("what", x.count(what), BAD);
    }

    private static void digest() {
        LevelBreaks x = new LevelBreaks();
        long h = 17;
        for (int what = 0; what < 8; what++) h = 31 * h + (what == 5 ? 999 : 0);
        for (int n = 0; n < 160; n++) h = 31 * h - 9999;
        for (int n = 0; n < 32; n++) h = 31 * h - 3;
        due("of a new one", x.digest(), 31 * h);
        with(1, 2, 4).digest();
        LevelBreaks y = more(with(1, 2, 4, 8, 9), 3, 5, 2, 6, 6, 1, 2);
        typeAll(y, "1=2;3");
        y.asOf(500);
        h = 17;
        for (int what = 0; what < 8; what++) h = 31 * h + y.count(what);
        for (int row = 0; row < 4; row++) for (int day = 0; day < 40; day++) h = 31 * h + y.value(row, day);
        for (int row = 0; row < 4; row++) {
            for (int kind = 0; kind < 4; kind++) {
                for (int what = 0; what < 2; what++) {
                    long b = y.best(row, kind, 2, what);
                    h = 31 * h + (b < 0 ? -3 : b);
                }
            }
        }
        h = 31 * h + 5;
        due("of some rows", y.digest(), h);
        y.lose(0);
        due("a FINDING does not count", y.digest(), h);
    }
}
