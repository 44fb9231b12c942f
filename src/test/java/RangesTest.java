/** Too small, too large: each range at its first and last number, one beyond both, and the least and greatest int. */
public final class RangesTest {
    private static final int BAD = Sentences.BAD, INDEX = Sentences.INDEX, SIZE = Sentences.SIZE;
    private static final int LOW = Sentences.LOW, HIGH = Sentences.HIGH;

    private static Sentences t;

    public static void main(String[] args) throws Exception {
        t = new Sentences(args);
        rows();
        days();
        values();
        times();
        least();
        kinds();
        stretches();
        whichOne();
        points();
        allDays();
        prices();
        chance();
        alarms();
        what();
        text();
        sheets();
        items();
        t.end();
    }

    /** The call with another number in one of its places, counted from 1. */
    private static String with(String call, int place, int number) {
        String[] words = call.split(" ");
        words[place] = Integer.toString(number);
        return String.join(" ", words);
    }

    private static void range(String call, int place, int low, int high) {
        range(call, place, low, high, BAD, BAD);
    }

    private static void range(String call, int place, int low, int high, long below, long above) {
        for (int number : new int[] {low, high}) {
            t.after(Sentences.known()).takes(with(call, place, number), number == low ? below : above);
        }
        for (int number : new int[] {low - 1, LOW}) t.after(Sentences.known()).refuses(with(call, place, number), below);
        for (int number : new int[] {high + 1, HIGH}) t.after(Sentences.known()).refuses(with(call, place, number), above);
    }

    /** A range in a call whose answer is a long, or that has a refusal of its own. */
    private static void rangeBy(long refusal, String call, int place, int low, int high) {
        range(call, place, low, high, refusal, refusal);
    }

    private static void rows() {
        String words = "ROWS 0 .. 3.";
        t.says(2, words);
        range("tell 0 5 7 20", 1, 0, 3);
        t.says(3, words);
        range("read 1 0 5 20", 2, 0, 3);
        t.says(5, words);
        range("least 0 3", 1, 0, 3);
        t.says(6, words);
        rangeBy(-10000, "value 0 5", 1, 0, 3);
        t.says(7, words);
        range("many 0", 1, 0, 3);
        t.says(8, words);
        rangeBy(Sentences.LONG_BAD, "cost 0 0 1 2 0", 1, 0, 3);
        t.says(9, words);
        rangeBy(Sentences.LONG_BAD, "best 0 0 2 0", 1, 0, 3);
        t.says(10, words);
        range("cut 0 0 2 1", 1, 0, 3);
        t.says(11, words);
        range("priced 0 0 5", 1, 0, 3);
        t.says(12, words);
        range("near 0 0 2 50", 1, 0, 3);
        t.says(15, words);
        range("since 0 0 2", 1, 0, 3);
        t.says(16, words);
        range("doubt 0 2 1", 1, 0, 3);
        t.says(17, words);
        range("simpler 0 0 2 1 0", 1, 0, 3);
        t.says(18, words);
        range("together 2 1 0 2 3 0", 1, 2, 3);
        range("together 1 2 0 2 3 0", 2, 2, 3);
        for (int row : new int[] {-1, 4, LOW, HIGH}) {
            t.after(Sentences.known()).refuses(with("together 0 1 0 2 3 0", 1, row), BAD);
            t.after(Sentences.known()).refuses(with("together 0 1 0 2 3 0", 2, row), BAD);
            t.after(Sentences.known()).refuses("together " + row + " " + row + " 0 2 3 0", BAD);
        }
        t.says(18, "BAD: also a ROW with itself");
        for (int row = 0; row < 4; row++) t.after(Sentences.known()).refuses("together " + row + " " + row + " 0 2 3 1", BAD);
        t.says(19, words);
        range("alarm 0 5 1 10 0 -1", 1, 0, 3);
        t.says(20, words);
        range("soon 0 5 1 10 0 0 0", 1, 0, 3);
        t.says(21, words);
        range("limit 0 5 1 0 4", 1, 0, 3);
        t.says(25, words);
        range("missed 0 0", 1, 0, 3);
        t.says(31, words);
        range("write 0 2", 1, 0, 3);
        t.says(13, "COMMON CUTS of some ROWS (bits, not none)");
        range("common 3 1 2", 1, 1, 15);
        for (int row = 0; row < 4; row++) t.after(Sentences.known()).takes("common " + (1 << row) + " 1 2", BAD);
        for (int bits : new int[] {0, 16, 17, 31, 1 << 4 | 3, -16}) t.after(Sentences.known()).refuses("common " + bits + " 1 2", BAD);
        t.says(14, "COMMON CUTS of some ROWS (bits, not none)");
        range("shared 3 1 2 1", 1, 1, 15);
        for (int bits : new int[] {0, 16, 17, 31, 1 << 4 | 3, -16}) t.after(Sentences.known()).refuses("shared " + bits + " 1 2 1", BAD);
    }

    private static void days() {
        String words = "DAYS are 0 .. ";
        t.says(2, words);
        range("tell 0 5 7 20", 2, 0, 39);
        t.after("tell 0 0 5 0", "tell 0 39 6 0").answers("value 0 0", 5).answers("value 0 39", 6).answers("many 0", 2);
        t.says(3, words);
        range("read 1 0 5 20", 3, 0, 39);
        t.after(Sentences.sheet(0, 2, 1, 2, 3)).answers("read 0 0 37 0", 3).answers("read 0 0 38 0", 2)
            .answers("read 0 0 39 0", 1).answers("count 4", 6).answers("value 0 39", 1);
        t.says(6, words);
        rangeBy(-10000, "value 0 5", 2, 0, 39);
        t.says(19, words);
        range("alarm 0 5 1 10 0 6", 6, -1, 39);
        t.says(19, "how many (day = NONE)");
        t.after("tell 0 0 5 0", "tell 0 39 5 0").answers("alarm 0 0 0 5 0 -1", 2)
            .answers("alarm 0 0 0 5 0 0", 1).answers("alarm 0 0 0 5 0 39", 1).answers("alarm 0 0 0 5 0 38", 0)
            .refuses("alarm 0 0 0 5 0 -2", BAD).refuses("alarm 0 0 0 5 0 40", BAD);
        t.says(20, words);
        range("soon 0 5 1 10 0 6 0", 6, 0, 39);
        range("soon 0 5 1 10 0 6 1", 6, 0, 39);
        t.says(21, words);
        range("limit 0 5 1 0 6", 5, 0, 39);
        t.says(14, "all are cut at the same DAYS (1 to 39)");
        t.after("tell 0 38 5 0", "tell 0 39 6 0").answers("shared 1 1 2 1", 39).answers("common 1 1 2", 0);
        t.after("tell 0 0 5 0", "tell 0 1 6 0").answers("shared 1 1 2 1", 1).answers("common 1 1 2", 0)
            .answers("shared 1 1 2 0", 0);
    }

    private static void values() {
        t.says(2, "A VALUE (-1000 to 1000) of a ROW and a DAY");
        range("tell 0 5 7 20", 3, -1000, 1000);
        t.after("tell 0 0 -1000 0", "tell 0 1 1000 0").answers("value 0 0", -1000).answers("value 0 1", 1000);
        t.says(2, "or that there is none (NONE told as -9999)");
        range("tell 0 5 7 20", 3, -9999, -9999);
        t.after("tell 0 5 7 0").answers("tell 0 5 -9999 0", 2).answers("many 0", 0).answers("value 0 5", -9999);
        for (int value : new int[] {-9998, -10000, 9999, -1, 0}) {
            if (value < -1000 || value > 1000) t.after(Sentences.known()).refuses("tell 0 5 " + value + " 20", BAD);
            else t.after(Sentences.known()).takes("tell 0 5 " + value + " 20", BAD);
        }
        t.says(3, "as many as are items, as long as each may be");
        for (int item : new int[] {1001, -1001, -9998, -10000, LOW, HIGH}) {
            t.after(Sentences.sheet(0, 2, 1000, -1000, -9999, item, 5)).answers("read 0 1 7 4", 3).answers("count 4", 3)
                .answers("value 1 7", 1000).answers("value 1 8", -1000).answers("value 1 9", -9999)
                .answers("value 1 10", -9999).answers("value 1 11", -9999);
            t.after(Sentences.sheet(0, 2, item, 5)).answers("read 0 1 7 4", 0).answers("count 4", 0).answers("count 6", 0);
        }
    }

    private static void times() {
        t.says(2, "is told at a TIME (0 to 999; not less than the one told before, of any)");
        range("tell 0 5 7 20", 4, 20, 999);
        t.after().refuses("tell 0 5 7 -1", BAD).answers("tell 0 5 7 0", 1).answers("tell 0 5 7 0", 2)
            .answers("tell 1 5 7 999", 3).refuses("tell 0 5 7 998", BAD).answers("tell 2 5 7 999", 4);
        t.says(2, "BAD: also a TIME that is less than the one before");
        for (int row = 0; row < 4; row++) {
            for (int other = 0; other < 4; other++) {
                t.after("tell " + row + " 5 7 300").refuses("tell " + other + " 6 7 299", BAD)
                    .answers("tell " + other + " 6 7 300", 2).answers("tell " + other + " 6 7 301", 3);
            }
        }
        t.says(3, "not less than the one told before, of any");
        range("read 1 0 5 20", 4, 20, 999);
        t.after(Sentences.sheet(0, 2, 5), "tell 3 5 7 300").refuses("read 0 0 0 299", BAD).answers("read 0 0 0 300", 1)
            .answers("read 0 1 0 999", 1).refuses("tell 2 0 0 998", BAD).answers("count 6", 999);
        t.says(4, "AS OF a TIME (999 at first)");
        range("asOf 7", 1, 0, 999);
        t.after().answers("count 5", 999).answers("asOf 0", 999).answers("asOf 999", 0).answers("asOf 5", 999);
    }

    private static void least() {
        t.says(5, "LEAST (told by ROWS, 1 to 10; 1 at first)");
        range("least 0 3", 2, 1, 10);
        t.after();
        for (int row = 0; row < 4; row++) {
            t.answers("least " + row + " 10", 1).answers("least " + row + " " + (row + 2), 10)
                .refuses("least " + row + " 0", BAD).refuses("least " + row + " 11", BAD);
        }
        for (int row = 0; row < 4; row++) t.answers("least " + row + " 1", row + 2);
        t.after(Sentences.tells(0, 0, 0, 1, 1, 1, 1, 1, 1, 1, 1, 1, 5, 5, 5, 5, 5, 5, 5, 5, 5, 5, 5), "least 0 10")
            .answers("cut 0 3 2 1", 10).answers("best 0 3 2 0", 1).answers("best 0 3 3 0", Sentences.LONG_NOT);
    }

    private static void kinds() {
        String words = "COST of a STRETCH by a KIND: 0 LEVEL";
        t.says(8, words);
        rangeBy(Sentences.LONG_BAD, "cost 0 0 1 2 0", 2, 0, 3);
        t.says(9, words);
        rangeBy(Sentences.LONG_BAD, "best 0 0 2 0", 2, 0, 3);
        t.says(10, words);
        range("cut 0 0 2 1", 2, 0, 3);
        t.says(11, words);
        range("priced 0 0 5", 2, 0, 3);
        t.says(12, words);
        range("near 0 0 2 50", 2, 0, 3);
        t.says(15, words);
        range("since 0 0 2", 2, 0, 3);
        t.says(17, words);
        range("simpler 0 0 2 1 0", 2, 0, 3);
        t.says(18, words);
        range("together 0 1 0 2 3 0", 3, 0, 3);
        t.says(13, "by KIND 1 or 3");
        for (int kind : new int[] {LOW, -3, -1, 0, 2, 4, 5, 7, HIGH}) t.after(Sentences.known()).refuses("common 3 " + kind + " 2", BAD);
        for (int kind = 1; kind <= 3; kind += 2) t.after(Sentences.known()).takes("common 3 " + kind + " 2", BAD);
        t.says(14, "by KIND 1 or 3");
        for (int kind : new int[] {LOW, -3, -1, 0, 2, 4, 5, 7, HIGH}) t.after(Sentences.known()).refuses("shared 3 " + kind + " 2 1", BAD);
        for (int kind = 1; kind <= 3; kind += 2) t.after(Sentences.known()).takes("shared 3 " + kind + " 2 1", BAD);
        t.says(8, "the least COST by LEVEL of all VALUES less g times their DAYS, g from -20 to 20");
        t.after(Sentences.tells(0, 0, 0, 0, 20, 40)).answers("cost 0 2 0 2 0", 0);
        t.after(Sentences.tells(0, 0, 0, 40, 20, 0)).answers("cost 0 2 0 2 0", 0);
        t.after(Sentences.tells(0, 0, 0, 0, 21, 42)).answers("cost 0 2 0 2 0", 2).answers("cost 0 2 0 2 1", 1);
        t.after(Sentences.tells(0, 0, 0, 42, 21, 0)).answers("cost 0 2 0 2 0", 2).answers("cost 0 2 0 2 1", 1);
    }

    private static void stretches() {
        String words = "CUTS into k STRETCHES (1 to 6)";
        t.says(9, words);
        rangeBy(Sentences.LONG_BAD, "best 0 0 2 0", 3, 1, 6);
        t.says(10, words);
        range("cut 0 0 2 0", 3, 1, 6);
        t.says(15, words);
        range("since 0 0 2", 3, 1, 6);
        t.says(17, words);
        range("simpler 0 0 2 1 0", 3, 1, 6);
        t.says(13, "into k STRETCHES (1 to 6) of DAYS");
        range("common 3 1 2", 3, 1, 6);
        t.says(14, "into k STRETCHES (1 to 6) of DAYS");
        range("shared 3 1 2 0", 3, 1, 6);
        t.says(12, "how many CUTS into k STRETCHES (2, 3)");
        range("near 0 0 2 50", 3, 2, 3);
        t.says(18, "of two ROWS cut each into k STRETCHES (2 to 6)");
        range("together 0 1 0 2 3 0", 4, 2, 6);
        t.says(16, words);
        range("doubt 0 2 1", 2, 2, 6);
        t.says(11, "the number of STRETCHES (1 to 6)");
        t.after(Sentences.tells(0, 0, 0, 1, 2, 3, 4, 5, 6, 7, 8)).answers("priced 0 3 0", 6).answers("priced 0 3 1", 1);
    }

    private static void whichOne() {
        t.says(10, "BAD: i below 0, k and more");
        for (int k = 1; k <= 6; k++) range("cut 0 0 " + k + " 0", 4, 0, k - 1);
        t.says(14, "The DAY at which STRETCH i of COMMON CUTS begins (the first: 0). BAD");
        for (int k = 1; k <= 6; k++) range("shared 3 1 " + k + " 0", 4, 0, k - 1);
        t.says(16, "DOUBT of the cut at which STRETCH i (1 to k less 1) begins");
        for (int k = 2; k <= 6; k++) range("doubt 1 " + k + " 1", 3, 1, k - 1);
        for (int i : new int[] {LOW, -1, 0, 1, 2, HIGH}) t.after(Sentences.known()).refuses("doubt 1 1 " + i, BAD);
        t.says(17, "DAY i (from 0, q less 1 at most) of SIMPLER");
        range("simpler 0 0 2 1 0", 5, 0, 0);
        range("simpler 0 0 2 2 0", 5, 0, 1);
        t.says(17, "the q POINTS (1, 2)");
        range("simpler 0 0 2 1 0", 4, 1, 2);
    }

    private static void points() {
        t.says(8, "they are POINTS 0 .. N-1, by DAYS");
        rangeBy(Sentences.LONG_BAD, "cost 0 0 1 11 0", 3, 0, 11);
        rangeBy(Sentences.LONG_BAD, "cost 0 0 0 1 0", 4, 0, 11);
        t.says(8, "BAD: also a above b");
        t.after(Sentences.known()).refuses("cost 0 0 6 5 0", Sentences.LONG_BAD).answers("cost 0 0 6 6 0", 0)
            .answers("cost 0 0 6 6 1", 1).refuses("cost 0 0 11 0 0", Sentences.LONG_BAD)
            .refuses("cost 0 0 12 12 0", Sentences.LONG_BAD).refuses("cost 0 0 -1 -1 0", Sentences.LONG_BAD)
            .refuses("cost 0 0 " + HIGH + " " + LOW + " 0", Sentences.LONG_BAD)
            .refuses("cost 0 0 " + LOW + " " + HIGH + " 0", Sentences.LONG_BAD);
        t.says(8, "N of a ROW: how many DAYS have VALUES");
        t.after("tell 0 39 5 0").answers("cost 0 1 0 0 1", 1).refuses("cost 0 1 0 1 1", Sentences.LONG_BAD)
            .refuses("cost 0 1 39 39 1", Sentences.LONG_BAD);
        StringBuilder all = new StringBuilder();
        for (int d = 0; d < 40; d++) all.append("tell 2 " + d + " " + (d % 2 * 2000 - 1000) + " 0\n");
        t.after(all.toString()).answers("many 2", 40).answers("cost 2 0 0 39 0", 40000000).answers("cost 2 0 39 39 0", 0)
            .answers("cost 2 1 0 39 0", 40000).answers("cost 2 3 0 39 0", 20).refuses("cost 2 0 0 40 0", Sentences.LONG_BAD);
        StringBuilder alike = new StringBuilder();
        for (int d = 0; d < 40; d++) alike.append("tell 2 " + d + " -1000 0\n");
        t.after(alike.toString());
        for (int kind = 0; kind < 4; kind++) {
            t.answers("cost 2 " + kind + " 0 39 0", 0).answers("cost 2 " + kind + " 0 39 1", 1).answers("best 2 " + kind + " 6 0", 0)
                .answers("cut 2 " + kind + " 6 5", 5).answers("simpler 2 " + kind + " 6 2 1", 1);
        }
    }

    /** A ROW with a VALUE on each DAY: the most POINTS that there can be. */
    private static void allDays() {
        StringBuilder calls = new StringBuilder();
        for (int d = 0; d < 40; d++) calls.append("tell 0 " + d + " " + (d < 13 ? 5 : d < 30 ? -1000 : 1000) + " 0\n");
        for (int d = 0; d < 40; d++) calls.append("tell 1 " + d + " " + (d < 14 ? 0 : d < 30 ? 7 : 1) + " 0\n");
        String[] questions = {"7 many 0", "8 cost 0 2 0 39 0", "8 cost 0 0 0 39 1", "9 best 0 0 3 0", "9 best 0 1 3 0", "9 best 0 3 3 1",
            "10 cut 0 0 3 2", "10 cut 0 3 6 5", "12 near 0 0 2 1000", "12 near 0 0 3 1000", "12 near 0 3 3 1000", "12 near 0 1 2 1000",
            "13 common 3 1 3", "13 common 3 3 2", "14 shared 3 1 3 1", "14 shared 3 3 3 2", "15 since 0 0 3", "16 doubt 0 3 1",
            "17 simpler 0 0 3 1 0", "17 simpler 0 3 3 2 1", "18 together 0 1 0 3 1 0", "18 together 0 1 0 3 9 1", "19 alarm 0 0 0 1000 0 -1",
            "20 soon 0 0 0 1000 0 39 0", "20 soon 0 0 0 1 0 39 1", "21 limit 0 0 0 0 39", "31 write 0 0", "32 count 0"};
        for (String question : questions) {
            int blank = question.indexOf(' ');
            t.says(Integer.parseInt(question.substring(0, blank)), "they are POINTS 0 .. N-1, by DAYS");
            t.after(calls.toString(), "sheet 0 2 60").takes(question.substring(blank + 1), BAD);
        }
    }

    private static void prices() {
        t.says(11, "by a price for each STRETCH but the first (0 to 1000000)");
        range("priced 0 0 5", 3, 0, 1000000);
        t.after("tell 0 0 -1000 0", "tell 0 1 1000 0").answers("priced 0 0 1000000", 2).answers("priced 0 0 0", 2);
        t.after("tell 0 0 -1000 0", "tell 0 1 0 0").answers("priced 0 0 500000", 1).answers("priced 0 0 499999", 2);
        t.says(12, "a hundredth of it times p (0 to 1000) more");
        range("near 0 0 2 50", 4, 0, 1000);
        // 1 and 11 by MIDDLE: eleven times as dear
        t.after(Sentences.tells(0, 0, 0, 0, 1, 12)).answers("near 0 1 2 1000", 2).answers("near 0 1 2 999", 1);
    }

    private static void chance() {
        t.says(18, "are no more than r DAYS (0 to 9) from one of the second's");
        range("together 0 1 0 2 3 0", 5, 0, 9);
        range("together 0 1 0 2 3 1", 5, 0, 9);
        t.after(Sentences.tells(0, 0, 0, 0, 9), Sentences.tells(1, 9, 0, 0, 9)).answers("together 0 1 0 2 9 0", 1)
            .answers("together 0 1 0 2 8 0", 0);
        t.after(Sentences.tells(0, 0, 0, 0, 9), Sentences.tells(1, 10, 0, 0, 9)).answers("together 0 1 0 2 9 0", 0);
        t.after(Sentences.tells(0, 4, 0, 0, 9), Sentences.tells(1, 4, 0, 0, 9)).answers("together 0 1 0 2 0 0", 1);
        t.after(Sentences.tells(0, 4, 0, 0, 9), Sentences.tells(1, 5, 0, 0, 9)).answers("together 0 1 0 2 0 0", 0)
            .answers("together 1 0 0 2 0 0", 0).answers("together 1 0 0 2 1 0", 1);
        t.says(18, "of all ways to put as many cuts as the first has on the DAYS 1 to 39");
        // near 1 by 9: the DAYS 1 to 10; near 39 by 9: 30 to 39; near 20 by 9: 11 to 29
        t.after(Sentences.tells(0, 0, 0, 0, 9), Sentences.tells(1, 0, 0, 0, 9)).answers("together 0 1 0 2 9 1", 10000000L / 39)
            .answers("together 0 1 0 2 0 1", 1000000L / 39);
        t.after(Sentences.tells(0, 38, 0, 0, 9), Sentences.tells(1, 38, 0, 0, 9))
            .answers("together 0 1 0 2 9 1", 10000000L / 39).answers("together 0 1 0 2 0 1", 1000000L / 39);
        t.after(Sentences.tells(0, 19, 0, 0, 9), Sentences.tells(1, 19, 0, 0, 9))
            .answers("together 0 1 0 2 9 1", 19000000L / 39);
    }

    private static void alarms() {
        t.says(19, "by a TARGET (-1000 to 1000)");
        range("alarm 0 5 1 10 0 -1", 2, -1000, 1000);
        t.says(20, "by a TARGET (-1000 to 1000)");
        range("soon 0 5 1 10 0 0 0", 2, -1000, 1000);
        t.says(21, "by a TARGET (-1000 to 1000)");
        range("limit 0 5 1 0 4", 2, -1000, 1000);
        t.says(19, "a SLACK (0 to 1000)");
        range("alarm 0 5 1 10 0 -1", 3, 0, 1000);
        t.says(20, "a SLACK (0 to 1000)");
        range("soon 0 5 1 10 0 0 0", 3, 0, 1000);
        t.says(21, "a SLACK (0 to 1000)");
        range("limit 0 5 1 0 4", 3, 0, 1000);
        t.says(19, "a LIMIT (1 to 100000)");
        range("alarm 0 5 1 10 0 -1", 4, 1, 100000);
        t.says(20, "a LIMIT (1 to 100000)");
        range("soon 0 5 1 10 0 0 0", 4, 1, 100000);
        // a SUM of 2000 a DAY comes to 80000 at the most: LIMITS above it are never reached
        t.says(19, "an ALARM on the DAY by which it comes to LIMIT or more");
        StringBuilder high = new StringBuilder("sheet 0 2 40");
        for (int i = 0; i < 40; i++) high.append("\nput 0 2 " + i + " 1000");
        t.after(high.toString(), "read 0 0 0 0").answers("alarm 0 -1000 0 80000 0 39", 1)
            .answers("alarm 0 -1000 0 80001 0 -1", 0).answers("alarm 0 -1000 0 1 0 -1", 40)
            .answers("alarm 0 -1000 1000 40000 0 39", 1).answers("alarm 0 1000 0 1 1 -1", 0);
        t.says(19, "a way (0 up, 1 down)");
        range("alarm 0 5 1 10 0 -1", 5, 0, 1);
        t.after("tell 0 0 9 0", "tell 0 1 1 0").answers("alarm 0 5 0 4 0 0", 1).answers("alarm 0 5 0 4 0 1", 0)
            .answers("alarm 0 5 0 4 1 0", 0).answers("alarm 0 5 0 4 1 1", 1);
        t.says(20, "a way (0 up, 1 down)");
        range("soon 0 5 1 10 0 0 0", 5, 0, 1);
        t.says(21, "a way (0 up, 1 down)");
        range("limit 0 5 1 0 4", 4, 0, 1);
        t.says(21, "of LIMITS 1 to 2000 the least");
        t.after(Sentences.tells(0, 0, 0, 1000, 999, 1)).answers("limit 0 0 0 0 2", 2000).answers("limit 0 0 0 0 1", 1001)
            .answers("limit 0 0 0 0 0", 1);
        t.after(Sentences.tells(0, 0, 0, 1000, 1000, 1)).answers("limit 0 0 0 0 2", Sentences.NONE);
        t.after("tell 0 0 1 0").answers("limit 0 0 0 0 0", 1).answers("limit 0 0 1 0 0", Sentences.NONE);
        t.says(21, "an ALARM on a DAY or later (till 39)");
        t.after("tell 0 39 7 0").answers("limit 0 0 0 0 39", 1).answers("limit 0 0 0 0 0", 1);
        t.after("tell 0 38 7 0").answers("limit 0 0 0 0 38", 1).answers("limit 0 0 0 0 39", Sentences.NONE);
    }

    private static void what() {
        t.says(8, "above (what = 0), below (1)");
        rangeBy(Sentences.LONG_BAD, "cost 0 0 1 2 0", 5, 0, 1);
        t.says(9, "above, below. BAD");
        rangeBy(Sentences.LONG_BAD, "best 0 0 2 0", 4, 0, 1);
        t.says(18, "how many (what = 0), CHANCE (1)");
        range("together 0 1 0 2 3 0", 6, 0, 1);
        t.says(20, "HOW SOON behind a DAY (what = 0); FOR NOTHING before it (1)");
        range("soon 0 5 1 10 0 0 0", 7, 0, 1);
        t.says(25, "MISSED (what = 0), WORST (1)");
        range("missed 0 0", 2, 0, 1);
        t.says(32, "8 the number of the latest FINDING (0 before any). BAD");
        range("count 0", 1, 0, 8);
    }

    private static void faultOf(String text, int place) {
        t.after(Sentences.types(text)).answers("fault", place);
    }

    private static void text() {
        t.says(22, "A byte (0 to 255) comes behind the text");
        range("type 0", 1, 0, 255);
        t.says(24, "a DAY (one or two figures)");
        faultOf("0=1", -1);
        faultOf("9=1", -1);
        faultOf("00=1", -1);
        faultOf("39=1", -1);
        faultOf("=1", 0);
        faultOf("039=1", 2);
        faultOf("000=1", 2);
        t.says(24, "or of the first byte of a number that may not be (of a DAY, too)");
        faultOf("40=1", 0);
        faultOf("99=1", 0);
        faultOf("5=1;40=1", 4);
        t.says(24, "numbers are one to four figures, perhaps a - ahead, from -1000 to 1000");
        faultOf("1=1000", -1);
        faultOf("1=-1000", -1);
        faultOf("1=0000", -1);
        faultOf("1=-0001", -1);
        faultOf("1=1001", 2);
        faultOf("1=-1001", 2);
        faultOf("1=9999", 2);
        faultOf("1=-9999", 2);
        faultOf("1=", 2);
        faultOf("1=-", 3);
        faultOf("1=01000", 6);
        faultOf("1=-01000", 7);
        faultOf("1=10000", 6);
        faultOf("1=99999", 2);
        faultOf("1~1000,0", -1);
        faultOf("1~-1000,0", -1);
        faultOf("1~1001,0", 2);
        faultOf("1~-1001,0", 2);
        t.says(24, "(the second, behind a , , 0 to 1000)");
        faultOf("1~5,0", -1);
        faultOf("1~5,-0", -1);
        faultOf("1~5,1000", -1);
        faultOf("1~5,1001", 4);
        faultOf("1~5,-1", 4);
        faultOf("1~5,", 4);
        faultOf("1~5,-", 5);
        faultOf("1~5,00000", 8);
        t.says(24, "Each DAY is later than the one ahead");
        faultOf("5=1;6=1", -1);
        faultOf("38=1;39=1", -1);
        faultOf("5=1;5=1", 4);
        faultOf("5=1;4=1", 4);
        faultOf("5=1;7=1;6=1", 8);
        faultOf("0=1;00=1", 4);
        faultOf("39=1;0=1", 5);
        t.says(25, "from that DAY on (to the next part's) the VALUE is to be that");
        t.after(Sentences.tells(0, 2, 0, 9, 9, 9, 9), Sentences.types("3=8;5=7")).answers("missed 0 0", 1 + 1 + 2)
            .answers("missed 0 1", 5);
        t.says(25, "or within so much of the first");
        t.after(Sentences.tells(0, 0, 0, 2, 8), Sentences.types("0~5,3")).answers("missed 0 0", 0).answers("missed 0 1", -1);
        t.after(Sentences.tells(0, 0, 0, 1, 9), Sentences.types("0~5,3")).answers("missed 0 0", 2).answers("missed 0 1", 0);
        t.after(Sentences.tells(0, 0, 0, -1000, 1000), Sentences.types("0~0,1000")).answers("missed 0 0", 0);
        t.after(Sentences.tells(0, 0, 0, -1000, 1000), Sentences.types("0~0,999")).answers("missed 0 0", 2);
        t.after(Sentences.tells(0, 0, 0, -1000, 1000), Sentences.types("0=1000")).answers("missed 0 0", 2000);
        t.says(25, "(DAYS ahead of the first part's aside)");
        t.after(Sentences.tells(0, 2, 0, 900, 6), Sentences.types("3=5")).answers("missed 0 0", 1).answers("missed 0 1", 3);
        t.after(Sentences.tells(0, 0, 0, 900, 6), Sentences.types("39=5")).answers("missed 0 0", 0).answers("missed 0 1", -1);
        t.after("tell 0 39 6 0", Sentences.types("39=5")).answers("missed 0 0", 1).answers("missed 0 1", 39);
    }

    private static void sheets() {
        String words = "SHEETS 0 .. 3";
        t.says(3, words);
        range("read 0 0 5 20", 1, 0, 3);
        t.says(26, words);
        range("sheet 0 1 7", 1, 0, 3);
        t.says(27, words);
        range("lose 0", 1, 0, 3);
        t.says(28, words);
        range("put 0 0 1 7", 1, 0, 3);
        t.says(29, words);
        rangeBy(LOW, "get 0 0 1", 1, 0, 3);
        t.says(30, "BAD: the SHEETS");
        range("copy 0 0 3 0 2", 1, 0, 3);
        range("copy 3 0 0 0 2", 3, 0, 3);
        t.says(31, words);
        range("write 0 2", 2, 0, 3);
        words = "a row of a TYPE: 0 bytes, 1 shorts, 2 ints";
        t.says(26, words);
        range("sheet 0 1 7", 2, 0, 2);
        t.says(28, words);
        range("put 0 0 1 7", 2, 0, 2);
        t.says(29, words);
        // another TYPE than its own is a FINDING, no TYPE at all is none
        t.after(Sentences.known()).answers("get 0 0 1", 2).refuses("get 0 2 1", LOW, 3).refuses("get 0 3 1", LOW, 0)
            .refuses("get 0 -1 1", LOW, 0).refuses("get 0 " + LOW + " 1", LOW, 0).refuses("get 0 " + HIGH + " 1", LOW, 0);
    }

    private static void items() {
        t.says(26, "of 0 to 60 items (0 at first)");
        range("sheet 0 1 7", 3, 0, 60, SIZE, BAD);
        for (int type = 0; type < 3; type++) {
            t.after("sheet 2 " + type + " 60").answers("get 2 " + type + " 0", 0).answers("get 2 " + type + " 59", 0)
                .answers("put 2 " + type + " 59 5", 1).answers("get 2 " + type + " 59", 5)
                .answers("sheet 2 " + type + " 60", 60).answers("get 2 " + type + " 59", 0);
        }
        t.says(26, "BAD: SHEET, TYPE, above 60; SIZE");
        t.after(Sentences.known()).refuses("sheet 0 0 61", BAD).refuses("sheet 0 0 -1", SIZE);
        t.says(28, "2 INDEX: there is no such item");
        range("put 0 0 1 7", 3, 0, 4, INDEX, INDEX);
        range("put 1 1 1 7", 3, 0, 3, INDEX, INDEX);
        range("put 2 2 1 7", 3, 0, 2, INDEX, INDEX);
        t.says(28, "becomes v (the lowest bits that it has)");
        for (int v : new int[] {LOW, HIGH}) t.after(Sentences.known()).takes("put 2 2 1 " + v, INDEX);
        t.says(29, "BAD: the least int; so are NULL, CAST, INDEX (count() 8 tells)");
        t.after(Sentences.known()).answers("get 0 0 0", 1).answers("get 0 0 4", 5);
        for (int i : new int[] {-1, 5, 59, 60, LOW, HIGH}) t.after(Sentences.known()).refuses("get 0 0 " + i, LOW, 2);
        t.says(30, "INDEX: below 0, not so many");
        range("copy 0 0 3 0 2", 2, 0, 3, INDEX, INDEX);
        range("copy 0 0 3 0 2", 4, 0, 1, INDEX, INDEX);
        range("copy 0 0 3 0 2", 5, 0, 3, INDEX, INDEX);
        range("copy 3 0 0 0 2", 5, 0, 3, INDEX, INDEX);
        range("copy 0 5 3 0 0", 2, 0, 5, INDEX, INDEX);
        range("copy 0 5 3 0 0", 4, 0, 3, INDEX, INDEX);
        t.says(31, "as many as there are items and DAYS: how many");
        for (int n : new int[] {0, 1, 39, 40, 41, 60}) {
            t.after("tell 0 0 5 0", "tell 0 38 6 0", "tell 0 39 7 0", "sheet 0 2 " + n).answers("write 0 0", Math.min(n, 40));
        }
        t.after("tell 0 0 5 0", "tell 0 39 7 0", "sheet 0 2 41", "put 0 2 40 3").answers("write 0 0", 40)
            .answers("get 0 2 0", 5).answers("get 0 2 39", 7).answers("get 0 2 40", 3);
    }
}
