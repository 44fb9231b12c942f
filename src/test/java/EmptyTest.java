/** Empty: a new object, a ROW without POINTS or with too few, an empty text, a SHEET of 0 items, a SHEET that is LOST. */
public final class EmptyTest {
    private static final int NONE = Sentences.NONE, BAD = Sentences.BAD, NOT = Sentences.NOT, GAP = Sentences.GAP;
    private static final int NULL = Sentences.NULL, INDEX = Sentences.INDEX, LOW = Sentences.LOW;
    private static final long LONG_BAD = Sentences.LONG_BAD, LONG_NOT = Sentences.LONG_NOT;
    private static Sentences t;

    public static void main(String[] args) throws Exception {
        t = new Sentences(args);
        newObject();
        noPoints();
        tooFew();
        tooFewInCommon();
        tooFewForSimpler();
        noText();
        noItems();
        lost();
        t.end();
    }

    private static void newObject() {
        t.says(1, "Nothing is told; all SHEETS are LOST");
        for (int what = 0; what <= 8; what++) t.answers("count " + what, what == 5 ? 999 : 0);
        for (int row = 0; row < 4; row++) {
            t.answers("many " + row, 0).answers("value " + row + " 0", GAP).answers("value " + row + " 39", GAP);
        }
        for (int s = 0; s < 4; s++) t.refuses("lose " + s, NULL);
        t.says(32, "6 the TIME that was told last (0 at first)");
        t.answers("count 6", 0).answers("tell 2 7 5 0", 1).answers("count 6", 0).answers("tell 2 7 5 4", 2).answers("count 6", 4);
        t.says(32, "8 the number of the latest FINDING (0 before any)");
        t.answers("count 8", 0).answers("lose 2", NULL).answers("count 8", 1).answers("sheet 2 0 -1", Sentences.SIZE)
            .answers("count 8", 5);
        t.says(2, "A VALUE (-9999: there is none) is told at a TIME: how many were");
        t.answers("tell 0 3 -9999 5", 1).answers("many 0", 0).answers("count 4", 1).answers("count 6", 5)
            .answers("value 0 3", GAP);
        t.says(6, "a GAP, where nothing was, or NONE");
        t.after("tell 0 3 5 5", "tell 0 4 -9999 5").answers("value 0 2", GAP).answers("value 0 3", 5).answers("value 0 4", GAP)
            .answers("many 0", 1).answers("cut 0 0 1 0", 3);
        t.says(33, "above and below (-3 each: NOT)");
        long h = 17;
        for (int what = 0; what < 8; what++) h = 31 * h + (what == 5 ? 999 : 0);
        for (int n = 0; n < 160; n++) h = 31 * h - 9999;
        for (int n = 0; n < 32; n++) h = 31 * h - 3;
        t.after().answers("digest", 31 * h);
    }

    /** Three ways in which ROW 1 is without POINTS while ROW 0 has two: nothing told, told as none, not told yet. */
    private static final String[] WITHOUT_POINTS = {
        "tell 0 0 1 0\ntell 0 1 2 0",
        "tell 1 5 7 0\ntell 1 5 -9999 0\ntell 0 0 1 0\ntell 0 1 2 0",
        "tell 0 0 1 0\ntell 0 1 2 0\ntell 1 5 7 600\nasOf 599"};

    private static void refusedWithoutPoints(String call, long refusal) {
        for (String calls : WITHOUT_POINTS) t.after(calls).refuses(call, refusal);
    }

    private static void dueWithoutPoints(String call, long due) {
        for (String calls : WITHOUT_POINTS) t.after(calls, Sentences.types("0=5"), "sheet 0 2 6").answers(call, due);
    }

    private static void noPoints() {
        String words = "NOT, where N is below k times LEAST, or 0";
        t.says(9, words);
        for (int k = 1; k <= 6; k++) refusedWithoutPoints("best 1 " + k % 4 + " " + k + " 0", LONG_NOT);
        for (int k = 1; k <= 6; k++) refusedWithoutPoints("best 1 " + k % 4 + " " + k + " 1", LONG_NOT);
        t.says(10, words);
        for (int k = 1; k <= 6; k++) refusedWithoutPoints("cut 1 " + k % 4 + " " + k + " " + (k - 1), NOT);
        t.says(11, "NOT: N is below LEAST, or 0");
        for (int kind = 0; kind < 4; kind++) refusedWithoutPoints("priced 1 " + kind + " 0", NOT);
        t.says(12, words);
        refusedWithoutPoints("near 1 0 2 0", NOT);
        refusedWithoutPoints("near 1 3 3 1000", NOT);
        t.says(15, "NOT: there are no BEST CUTS now");
        for (int k = 1; k <= 6; k++) refusedWithoutPoints("since 1 2 " + k, NOT);
        t.says(16, words);
        for (int k = 2; k <= 6; k++) refusedWithoutPoints("doubt 1 " + k + " 1", NOT);
        t.says(17, "or q and 1 are above N");
        refusedWithoutPoints("simpler 1 0 1 1 0", NOT);
        refusedWithoutPoints("simpler 1 3 6 2 1", NOT);
        t.says(18, "NOT, as of one of both");
        refusedWithoutPoints("together 0 1 0 2 9 0", NOT);
        refusedWithoutPoints("together 1 0 0 2 9 1", NOT);
        refusedWithoutPoints("together 1 2 0 6 0 0", NOT);
        t.says(13, "NOT, if there are none");
        for (int rows : new int[] {2, 3, 6, 15}) refusedWithoutPoints("common " + rows + " 1 1", NOT);
        t.says(14, "NOT, if there are none");
        for (int rows : new int[] {2, 3, 6, 15}) refusedWithoutPoints("shared " + rows + " 3 1 0", NOT);
        t.says(8, "they are POINTS 0 .. N-1");
        for (int kind = 0; kind < 4; kind++) refusedWithoutPoints("cost 1 " + kind + " 0 0 1", LONG_BAD);
        t.says(7, "how many DAYS have VALUES");
        dueWithoutPoints("many 1", 0);
        dueWithoutPoints("count 1", 0);
        t.says(19, "a SUM of 0 at first");
        dueWithoutPoints("alarm 1 0 0 1 0 -1", 0);
        dueWithoutPoints("alarm 1 0 0 1 0 5", 0);
        dueWithoutPoints("alarm 1 1000 0 1 1 -1", 0);
        t.says(20, "to the first ALARM on it or later; NONE");
        dueWithoutPoints("soon 1 0 0 1 0 0 0", NONE);
        dueWithoutPoints("soon 1 0 0 1 0 39 1", 0);
        t.says(21, "and none before it; NONE");
        dueWithoutPoints("limit 1 0 0 0 0", NONE);
        dueWithoutPoints("limit 1 1000 0 1 39", NONE);
        t.says(25, "NONE, if none is");
        dueWithoutPoints("missed 1 0", 0);
        dueWithoutPoints("missed 1 1", NONE);
        t.says(31, "GAPS: -9999, the lowest bits of it");
        dueWithoutPoints("write 1 0", 6);
        for (String calls : WITHOUT_POINTS) {
            t.after(calls, "sheet 0 2 6", "write 1 0").answers("get 0 2 0", GAP).answers("get 0 2 5", GAP);
        }
    }

    /** So many POINTS in a ROW, all different. */
    private static String points(int row, int n) {
        int[] values = new int[n];
        for (int x = 0; x < n; x++) values[x] = x * (x + 1) / 2;
        return n == 0 ? "many 0" : Sentences.tells(row, 0, 0, values);
    }

    /** A call with k in it: refused where N is one below k times LEAST, and taken where it is as much. */
    private static void fewest(String callWithK, int fromK, int toK, long refusal) {
        for (int least = 1; least <= 10; least++) {
            for (int k = fromK; k <= toK && k * least <= 40; k++) {
                String call = callWithK.replace("k", Integer.toString(k));
                String others = points(1, 6) + "\nleast 0 " + least;
                t.after(points(0, k * least - 1), others).refuses(call, refusal);
                t.after(points(0, k * least), others).takes(call, refusal);
            }
        }
    }

    private static void tooFew() {
        String words = "NOT, where N is below k times LEAST, or 0";
        t.says(9, words);
        fewest("best 0 1 k 0", 1, 6, LONG_NOT);
        t.after(points(0, 5)).refuses("best 0 0 6 0", LONG_NOT).answers("best 0 0 5 0", 0).answers("best 0 0 5 1", 1);
        t.says(10, words);
        fewest("cut 0 1 k 0", 1, 6, NOT);
        t.after(points(0, 6), "least 0 2").answersAll("cut 0 1 3", 0, 2, 4).refuses("cut 0 1 4 0", NOT);
        t.says(12, words);
        fewest("near 0 1 k 1000", 2, 3, NOT);
        t.says(15, "NOT: there are no BEST CUTS now");
        fewest("since 0 1 k", 1, 6, NOT);
        t.says(16, words);
        fewest("doubt 0 k 1", 2, 6, NOT);
        t.says(18, "NOT, as of one of both");
        fewest("together 0 1 1 k 0 0", 2, 6, NOT);
        fewest("together 1 0 1 k 0 1", 2, 6, NOT);
        t.says(11, "NOT: N is below LEAST, or 0");
        for (int least = 1; least <= 10; least++) {
            t.after(points(0, least - 1), "least 0 " + least).refuses("priced 0 1 0", NOT);
            t.after(points(0, least), "least 0 " + least).answers("priced 0 1 0", 1);
        }
        t.says(11, "the number of STRETCHES (1 to 6) with the least COST of BEST CUTS");
        t.after(points(0, 5)).answers("priced 0 0 0", 5).answers("least 0 2", 1).answers("priced 0 0 0", 2)
            .answers("least 0 5", 2).answers("priced 0 0 0", 1).answers("least 0 6", 5).refuses("priced 0 0 0", NOT);
    }

    private static void tooFewInCommon() {
        t.says(13, "each ROW has at least its LEAST of POINTS in each STRETCH");
        for (int least = 1; least <= 6; least++) {
            for (int k = 1; k <= 6; k++) {
                String enough = points(0, k * least) + "\n" + points(2, k * least) + "\nleast 0 " + least + "\nleast 2 " + least;
                t.after(enough).takes("common 5 1 " + k, NOT);
                t.then("tell 2 " + (k * least - 1) + " -9999 0").refuses("common 5 1 " + k, NOT).takes("common 1 1 " + k, NOT);
                t.refuses("common 4 1 " + k, NOT).refuses("shared 5 3 " + k + " 0", NOT);
            }
        }
        t.says(14, "NOT, if there are none");
        // POINTS of both, but one ROW's are all ahead of the other's
        t.after(Sentences.tells(0, 0, 0, 1, 2, 3), Sentences.tells(1, 3, 0, 1, 2, 3)).answers("shared 3 1 1 0", 0)
            .refuses("shared 3 1 2 1", NOT).refuses("common 3 3 2", NOT).answers("common 3 3 1", 4);
        t.after(Sentences.tells(0, 0, 0, 1, 2, 3), Sentences.tells(1, 1, 0, 1, 2, 3)).answers("shared 3 1 2 1", 2)
            .answers("common 3 1 2", 2).refuses("shared 3 1 3 1", NOT);
    }

    private static void tooFewForSimpler() {
        t.says(17, "NOT, where N less q is below k times LEAST");
        for (int least = 1; least <= 10; least++) {
            for (int k = 1; k <= 6 && k * least <= 20; k++) {
                for (int q = 1; q <= 2; q++) {
                    int n = k * least + q;
                    t.after(points(0, n), "least 0 " + least).takes("simpler 0 1 " + k + " " + q + " 0", NOT);
                    t.after(points(0, n - 1), "least 0 " + least).refuses("simpler 0 1 " + k + " " + q + " 0", NOT)
                        .refuses("simpler 0 0 " + k + " " + q + " " + (q - 1), NOT);
                }
            }
        }
        t.says(17, "or q and 1 are above N");
        t.after(points(0, 1)).refuses("simpler 0 0 1 1 0", NOT).refuses("simpler 0 0 1 2 0", NOT);
        t.after(points(0, 2)).answers("simpler 0 0 1 1 0", 0).refuses("simpler 0 0 1 2 0", NOT);
        t.after(points(0, 3)).answers("simpler 0 0 1 2 0", 0).answers("simpler 0 0 1 2 1", 1);
    }

    private static void noText() {
        t.says(24, "(of an empty text 0)");
        t.after().answers("fault", 0).after(Sentences.types("1=2")).answers("fault", NONE).answers("wipe", 3).answers("fault", 0);
        t.says(24, "the place of the first byte with which it cannot go on");
        String[] texts = {"x", "=", ";", "1", "1=", "1=2;", "1=2;;", "1~", "1~2", "1~2,", "1=-", "1=2=", "1=2~", "1=2,", "1~2;",
            "1~2=", "1~2,3,", "1;", "1,", "1-", "-1", "1=2;x", "1=2 ", " 1=2", "1=--2", "1=2-", "1~2,--3", "1=2;3", "1=2;3=", "1=+2"};
        int[] places = {0, 0, 0, 1, 2, 4, 4, 2, 3, 4, 3, 3, 3, 3, 3,
            3, 5, 1, 1, 1, 0, 4, 3, 0, 3, 3, 5, 5, 6, 2};
        for (int n = 0; n < texts.length; n++) t.after(Sentences.types(texts[n])).answers("fault", places[n]);
        for (int b : new int[] {0, 9, 10, 32, '/', ':', 128, 176, 178, 185, 255}) {
            t.after("type " + b).answers("fault", 0).after("type 49", "type " + b).answers("fault", 1)
                .after(Sentences.types("1=2"), "type " + b).answers("fault", 3);
        }
        t.says(25, "NOT: a FAULT");
        t.after("tell 0 0 5 0").refuses("missed 0 0", NOT).refuses("missed 0 1", NOT).then(Sentences.types("0=5;"))
            .refuses("missed 0 0", NOT).refuses("missed 3 1", NOT).then(Sentences.types("9=5")).answers("missed 0 0", 0);
        t.says(23, "The text is empty: how many bytes it had");
        t.after().answers("wipe", 0).answers("wipe", 0).answers("type 0", 1).answers("wipe", 1).answers("count 7", 0)
            .answers("wipe", 0);
    }

    private static void noItems() {
        t.says(26, "of 0 to 60 items (0 at first)");
        for (int type = 0; type < 3; type++) t.answers("sheet 1 " + type + " 0", 0).answers("lose 1", 0).answers("count 8", 0);
        String empty = "sheet 1 1 0\nsheet 2 1 0";
        t.says(3, "as many as are items");
        t.after(empty).answers("read 1 0 0 50", 0).answers("count 4", 0).answers("count 6", 0).answers("tell 0 0 0 49", 1);
        t.says(28, "2 INDEX: there is no such item");
        t.after(empty).refuses("put 1 1 0 5", INDEX).refuses("put 1 1 -1 5", INDEX);
        t.says(29, "so are NULL, CAST, INDEX (count() 8 tells)");
        t.after(empty).refuses("get 1 1 0", LOW, 2).refuses("get 1 0 0", LOW, 3);
        t.says(30, "INDEX: below 0, not so many");
        t.after(empty).answers("copy 1 0 2 0 0", 1).answers("copy 1 0 1 0 0", 1).refuses("copy 1 0 2 0 1", INDEX)
            .refuses("copy 1 1 2 0 0", INDEX).refuses("copy 1 0 2 1 0", INDEX).refuses("copy 1 0 2 0 -1", INDEX);
        t.says(31, "as many as there are items and DAYS");
        t.after(empty, "tell 0 0 5 0").answers("write 0 1", 0).answers("count 8", 0);
        t.says(27, "It is LOST: how many items it had");
        t.after(empty).answers("lose 1", 0).refuses("lose 1", NULL).answers("lose 2", 0).answers("sheet 2 0 60", 60)
            .answers("lose 2", 60);
    }

    private static void lost() {
        String words = "1 NULL: the SHEET is LOST";
        for (String ahead : new String[] {"", "\nlose 1"}) {
            String one = Sentences.sheet(0, 0, 1, 2) + (ahead.isEmpty() ? "" : "\nsheet 1 0 2" + ahead);
            t.says(3, words);
            t.after(one).refuses("read 1 0 0 0", NULL).answers("read 0 0 0 0", 2);
            t.says(27, words);
            t.after(one).refuses("lose 1", NULL).answers("lose 0", 2).refuses("lose 0", NULL);
            t.says(28, words);
            t.after(one).refuses("put 1 0 0 5", NULL);
            t.says(29, words);
            t.after(one).refuses("get 1 0 0", LOW, 1);
            t.says(30, "NULL: s, t");
            t.after(one).refuses("copy 1 0 0 0 1", NULL).refuses("copy 0 0 1 0 1", NULL).refuses("copy 1 0 1 0 0", NULL)
                .refuses("copy 2 0 3 0 0", NULL);
            t.says(31, words);
            t.after(one, "tell 0 0 5 0").refuses("write 0 1", NULL).answers("write 0 0", 2);
        }
        t.says(26, "A SHEET is a new row of a TYPE with n items");
        t.after(Sentences.sheet(0, 0, 1, 2), "lose 0").answers("sheet 0 0 2", 2).answers("get 0 0 0", 0).answers("get 0 0 1", 0)
            .answers("sheet 0 2 1", 1).answers("get 0 2 0", 0).refuses("get 0 2 1", LOW, 2);
        t.says(27, "BAD; NULL");
        t.after().refuses("lose -1", BAD).refuses("lose 4", BAD).refuses("lose 3", NULL);
    }
}
