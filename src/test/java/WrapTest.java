import java.math.BigInteger;
import java.util.ArrayList;
import java.util.List;

/** Wrap-arounds: the lowest bits of put and write, the longs of digest, copies within one SHEET and past the greatest int. */
public final class WrapTest {
    private static final int INDEX = Sentences.INDEX, LOW = Sentences.LOW, HIGH = Sentences.HIGH;
    private static Sentences t;

    public static void main(String[] args) throws Exception {
        t = new Sentences(args);
        put();
        write();
        read();
        digest();
        copyWithin();
        copyPast();
        t.end();
    }

    private static void put() {
        t.says(28, "becomes v (the lowest bits that it has)");
        int[] numbers = {0, 1, -1, 127, 128, -128, -129, 255, 256, 257, -256, 300, 32767, 32768, -32768, -32769, 65535, 65536,
            65537, -65536, 40000, 9999, -9999, HIGH, LOW, HIGH - 127, LOW + 128, 0x12345678};
        for (int v : numbers) {
            t.after("sheet 0 0 2", "sheet 1 1 2", "sheet 2 2 2");
            t.answers("put 0 0 1 " + v, 1).answers("get 0 0 1", lowest(v, 8)).answers("get 0 0 0", 0);
            t.answers("put 1 1 1 " + v, 1).answers("get 1 1 1", lowest(v, 16)).answers("get 1 1 0", 0);
            t.answers("put 2 2 1 " + v, 1).answers("get 2 2 1", v).answers("get 2 2 0", 0);
        }
        t.after("sheet 0 0 1", "put 0 0 0 128").answers("get 0 0 0", -128).then("put 0 0 0 -129").answers("get 0 0 0", 127)
            .then("put 0 0 0 256").answers("get 0 0 0", 0).then("put 0 0 0 " + LOW).answers("get 0 0 0", 0)
            .then("put 0 0 0 " + HIGH).answers("get 0 0 0", -1);
        t.after("sheet 0 1 1", "put 0 1 0 32768").answers("get 0 1 0", -32768).then("put 0 1 0 -32769").answers("get 0 1 0", 32767)
            .then("put 0 1 0 65536").answers("get 0 1 0", 0).then("put 0 1 0 " + HIGH).answers("get 0 1 0", -1);
    }

    /** So many bits of a number, the highest of them as a sign. */
    private static int lowest(int v, int bits) {
        long whole = 1L << bits;
        long left = Math.floorMod((long) v, whole);
        return (int) (left < whole / 2 ? left : left - whole);
    }

    private static void write() {
        t.says(31, "(GAPS: -9999, the lowest bits of it)");
        t.after("tell 0 1 5 0", "sheet 0 0 3", "sheet 1 1 3", "sheet 2 2 3", "write 0 0", "write 0 1", "write 0 2")
            .answers("get 0 0 0", -15).answers("get 0 0 1", 5).answers("get 0 0 2", -15)
            .answers("get 1 1 0", -9999).answers("get 1 1 2", -9999).answers("get 2 2 0", -9999).answers("get 2 2 1", 5);
        t.says(31, "VALUES of a ROW by DAYS");
        for (int v : new int[] {127, 128, -128, -129, 255, 256, 1000, -1000}) {
            t.after("tell 0 0 " + v + " 0", "sheet 0 0 1", "sheet 1 1 1", "write 0 0", "write 0 1")
                .answers("get 0 0 0", lowest(v, 8)).answers("get 1 1 0", v);
        }
    }

    private static void read() {
        t.says(3, "VALUES of a SHEET for DAYS from one on are told");
        // bytes and shorts are read as they are kept
        t.after(Sentences.sheet(0, 0, 300, -9999, 128)).answers("read 0 0 0 0", 3).answers("value 0 0", 44)
            .answers("value 0 1", -15).answers("value 0 2", -128).answers("many 0", 3);
        t.after(Sentences.sheet(0, 1, 65536 + 7, -9999, 65536 - 9999, 55537)).answers("read 0 0 0 0", 4).answers("value 0 0", 7)
            .answers("many 0", 1);
        t.after(Sentences.sheet(0, 2, 65536 + 7)).answers("read 0 0 0 0", 0).answers("many 0", 0);
    }

    private static void digest() {
        t.says(33, "h is 17; h becomes 31 h and each of");
        String[] states = {Sentences.known(), Sentences.known() + "\nasOf 15", Sentences.toldFull(), "type 300", "type 49",
            Sentences.tells(2, 0, 0, 1000, -1000, 1000), Sentences.tells(3, 38, 0, 1000, -1000), "tell 1 0 5 0",
            Sentences.tells(0, 0, 0, 1, 2, 4, 3, 9) + "\nleast 0 3", Sentences.known() + "\nwipe\nleast 0 7", "tell 0 5 -9999 999"};
        for (String calls : states) {
            long due = due(Sentences.made(List.of(calls))).longValue();
            t.after(calls).answers("digest", due).answers("digest", due);
        }
        t.says(33, "as longs that wrap");
        BigInteger whole = due(Sentences.made(List.of(Sentences.known())));
        if (whole.bitLength() < 640) throw new IllegalStateException("it is far beyond a long");
        t.after(Sentences.known()).answers("digest", whole.mod(BigInteger.ONE.shiftLeft(64)).longValue());
    }

    /** The digest of what the other calls answer, before its lowest 64 bits are taken. */
    private static BigInteger due(LevelBreaks x) {
        List<Long> each = new ArrayList<>();
        for (int what = 0; what <= 7; what++) each.add((long) x.count(what));
        for (int row = 0; row < 4; row++) for (int day = 0; day < 40; day++) each.add((long) x.value(row, day));
        for (int row = 0; row < 4; row++) {
            for (int kind = 0; kind < 4; kind++) {
                for (int what = 0; what < 2; what++) {
                    long best = x.best(row, kind, 2, what);
                    each.add(best == Sentences.LONG_NOT ? -3 : best);
                }
            }
        }
        each.add((long) x.fault());
        BigInteger h = BigInteger.valueOf(17);
        for (long e : each) h = h.multiply(BigInteger.valueOf(31)).add(BigInteger.valueOf(e));
        return h;
    }

    private static void copyWithin() {
        t.says(30, "come to SHEET t (perhaps s, as they were), from j on");
        for (int type = 0; type < 3; type++) {
            for (int i = 0; i <= 6; i++) {
                for (int j = 0; j <= 6; j++) {
                    for (int n = 0; n <= 6 - Math.max(i, j); n++) {
                        t.after(Sentences.sheet(1, type, 10, 11, 12, 13, 14, 15)).answers("copy 1 " + i + " 1 " + j + " " + n, 1);
                        for (int x = 0; x < 6; x++) t.answers("get 1 " + type + " " + x, x >= j && x < j + n ? 10 + i + x - j : 10 + x);
                    }
                }
            }
        }
        t.says(30, "n items of SHEET s, from i on, come to SHEET t");
        t.after(Sentences.sheet(0, 1, 1, 2, 3), Sentences.sheet(3, 1, 7, 8, 9, 10)).answers("copy 0 1 3 2 2", 1)
            .answersAll("get 3 1", 7, 8, 2, 3).answersAll("get 0 1", 1, 2, 3);
    }

    private static void copyPast() {
        t.says(30, "INDEX: below 0, not so many");
        String two = Sentences.sheet(0, 2, 1, 2, 3, 4) + "\n" + Sentences.sheet(1, 2, 5, 6, 7);
        int[] far = {HIGH, HIGH - 1, HIGH - 3, HIGH / 2 + 1, LOW, LOW + 1, LOW + 4, -1};
        for (int f : far) {
            t.after(two).refuses("copy 0 " + f + " 1 0 1", INDEX).refuses("copy 0 0 1 " + f + " 1", INDEX)
                .refuses("copy 0 0 1 0 " + f, INDEX).refuses("copy 0 1 1 1 " + f, INDEX)
                .refuses("copy 0 " + f + " 1 " + f + " " + f, INDEX).refuses("copy 0 " + f + " 0 0 0", INDEX)
                .refuses("copy 0 0 0 " + f + " 0", INDEX).refuses("copy 0 " + f + " 1 " + f + " 0", INDEX);
        }
        // the sum of both is below 0, or small, where an int wraps
        t.after(two).refuses("copy 0 " + HIGH + " 1 0 1", INDEX).refuses("copy 0 1 1 0 " + HIGH, INDEX)
            .refuses("copy 0 " + HIGH + " 1 0 " + HIGH, INDEX).refuses("copy 0 " + LOW + " 1 0 " + LOW, INDEX)
            .refuses("copy 0 0 1 " + HIGH + " 3", INDEX).refuses("copy 0 " + (LOW + 2) + " 1 0 " + LOW, INDEX)
            .refuses("copy 0 -2 1 0 3", INDEX).refuses("copy 0 0 1 -2 3", INDEX).refuses("copy 0 3 1 3 -3", INDEX);
        t.says(28, "2 INDEX: there is no such item");
        for (int i : new int[] {LOW, HIGH, -1, 4, LOW + 1, 1 << 8, 1 << 16}) t.after(two).refuses("put 0 2 " + i + " 9", INDEX);
    }
}
