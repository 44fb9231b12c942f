/** Full: 200 told, 100 bytes of text, more than 16 POINTS together. */
public final class FullTest {
    private static final int BAD = Sentences.BAD, NOT = Sentences.NOT, FULL = Sentences.FULL, NULL = Sentences.NULL;
    private static Sentences t;

    public static void main(String[] args) throws Exception {
        t = new Sentences(args);
        told();
        changes();
        read();
        text();
        doubted();
        t.end();
    }

    /** So many told, all of ROW 1 at TIME 10, over and over. */
    private static String told(int n) {
        StringBuilder s = new StringBuilder();
        for (int x = 0; x < n; x++) s.append(x == 0 ? "" : "\n").append("tell 1 " + x % 40 + " " + x + " 10");
        return s.toString();
    }

    private static void told() {
        t.says(2, "of any): 200 at most");
        t.after(told(199)).answers("count 4", 199).answers("tell 0 5 7 10", 200).answers("count 4", 200).answers("value 0 5", 7);
        t.says(2, "BAD: also a TIME that is less than the one before; FULL");
        t.after(told(200)).refuses("tell 0 5 7 10", FULL).refuses("tell 1 39 7 999", FULL).refuses("tell 3 0 -9999 500", FULL)
            .answers("value 0 5", -9999).answers("value 1 39", 199).answers("count 6", 10).answers("count 4", 200);
        t.says(2, "how many were");
        // none, corrections and what is told again count as well
        StringBuilder same = new StringBuilder();
        for (int n = 0; n < 199; n++) same.append("tell 2 9 " + (n % 2 == 0 ? -9999 : 5) + " 3\n");
        t.after(same.toString()).answers("count 4", 199).answers("many 2", 0).answers("tell 2 9 5 3", 200).answers("many 2", 1)
            .refuses("tell 2 9 6 3", FULL);
        t.says(4, "AS OF a TIME: what it was");
        t.after(told(200)).answers("asOf 9", 999).answers("many 1", 0).refuses("tell 0 5 7 10", FULL).answers("asOf 10", 9)
            .answers("many 1", 40);
    }

    private static void changes() {
        t.says(15, "the least TIME as of which, and as of all later ones up to that AS OF which it is");
        // 200 TIMES, one behind another, all of one ROW, and always the same cut
        StringBuilder s = new StringBuilder("tell 0 0 0 0\ntell 0 1 900 0");
        for (int time = 2; time < 200; time++) s.append("\ntell 0 1 " + time + " " + time);
        t.after(s.toString()).answers("count 4", 200).answers("since 0 0 2", 0).answers("since 0 0 1", 0).refuses("tell 0 1 5 999", FULL)
            .answers("since 0 0 2", 0);
        s = new StringBuilder("tell 0 0 0 0");
        for (int time = 1; time < 200; time++) s.append("\ntell 0 0 " + time + " " + time);
        t.after(s.toString()).answers("count 4", 200).answers("since 0 0 1", 0).then("asOf 150").answers("since 0 0 1", 0);
    }

    private static void read() {
        String sheet = Sentences.sheet(0, 2, 900, 901, 902) + "\n";
        t.says(3, "as many as are items, as long as each may be: how many");
        t.after(sheet, told(197)).answers("read 0 2 5 11", 3).answers("count 4", 200).answers("value 2 7", 902);
        t.after(sheet, told(198)).answers("read 0 2 5 11", 2).answers("count 4", 200).answers("value 2 6", 901)
            .answers("value 2 7", -9999).answers("count 6", 11);
        t.after(sheet, told(199)).answers("read 0 2 5 11", 1).answers("count 4", 200).answers("value 2 5", 900)
            .answers("value 2 6", -9999);
        t.after(sheet, told(200)).answers("read 0 2 5 11", 0).answers("count 4", 200).answers("value 2 5", -9999)
            .answers("count 6", 10).refuses("tell 2 5 900 10", FULL);
        t.says(3, "BAD; NULL");
        t.after(sheet, told(200)).refuses("read 0 2 5 9", BAD).refuses("read 1 2 5 11", NULL).refuses("read 0 4 5 11", BAD);
    }

    private static void text() {
        t.says(22, "A byte (0 to 255) comes behind the text: how many. BAD; FULL");
        t.after();
        for (int n = 1; n <= 100; n++) t.answers("type " + n, n);
        t.refuses("type 1", FULL).refuses("type 0", FULL).refuses("type 255", FULL).answers("count 7", 100)
            .answers("wipe", 100).answers("type 1", 1);
        t.says(24, "a text of up to 100 bytes");
        StringBuilder whole = new StringBuilder();
        for (int day = 0; day < 22; day++) whole.append(day + "=1;");
        if (whole.length() != 100) throw new IllegalStateException("test's own fault");
        t.after(Sentences.types(whole.toString())).answers("count 7", 100).answers("fault", 100);
        String ended = whole.substring(0, 95) + "11=11";
        t.after(Sentences.types(ended)).answers("count 7", 100).answers("fault", 95);
        ended = whole.substring(0, 94) + "1;21=2";
        t.after("tell 0 21 9 0", Sentences.types(ended)).answers("count 7", 100).answers("fault", -1).answers("missed 0 0", 7)
            .refuses("type 48", FULL).answers("missed 0 0", 7);
    }

    private static String values(int... amountsAndValues) {
        StringBuilder s = new StringBuilder();
        int day = 0;
        for (int n = 0; n < amountsAndValues.length; n += 2) {
            for (int x = 0; x < amountsAndValues[n]; x++) s.append("tell 0 " + day++ + " " + amountsAndValues[n + 1] + " 0\n");
        }
        return s.toString();
    }

    private static void doubted() {
        t.says(16, "16 POINTS together at most (FULL)");
        t.after(values(8, 0, 8, 1)).answers("doubt 0 2 1", 2000000 / 12870);
        t.after(values(1, 0, 15, 1)).answers("doubt 0 2 1", 1000000 / 16);
        t.after(values(15, 0, 1, 1)).answers("doubt 0 2 1", 1000000 / 16);
        t.after(values(8, 0, 9, 1)).refuses("doubt 0 2 1", FULL);
        t.after(values(1, 0, 16, 1)).refuses("doubt 0 2 1", FULL);
        t.after(values(16, 0, 1, 1)).refuses("doubt 0 2 1", FULL);
        t.after(values(20, 0, 20, 1)).refuses("doubt 0 2 1", FULL);
        t.says(16, "two STRETCHES of BEST CUTS beside one another (LEVEL)");
        // 16 together and 17 together, whatever the ROW has in all; of 4368 ways one is so far
        t.after(values(5, 0, 11, 100, 6, 1000)).answers("doubt 0 3 1", 1000000 / 4368).refuses("doubt 0 3 2", FULL);
        t.after(values(6, 0, 11, 100, 5, 1000)).refuses("doubt 0 3 1", FULL).answers("doubt 0 3 2", 1000000 / 4368);
        t.says(16, "BAD; NOT; FULL");
        t.after(values(20, 0, 20, 1)).refuses("doubt 0 2 2", BAD).then("least 0 10").refuses("doubt 0 5 1", NOT)
            .refuses("doubt 0 4 1", FULL);
    }
}
