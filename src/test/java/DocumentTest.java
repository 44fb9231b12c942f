/**
 * The document from its first line to its last: none of its words is left out, and behind each sentence stand answers
 * that would be others if it did not hold. They were worked out by hand from the document; where the class answered
 * otherwise they were worked out once more, and the slip was the hand's each time.
 */
public final class DocumentTest {
    private static final int NONE = Sentences.NONE, BAD = Sentences.BAD, NOT = Sentences.NOT, FULL = Sentences.FULL;
    private static final int GAP = Sentences.GAP, NULL = Sentences.NULL, INDEX = Sentences.INDEX, CAST = Sentences.CAST;
    private static final int STORE = Sentences.STORE, SIZE = Sentences.SIZE, LOW = Sentences.LOW;
    private static final long LONG_BAD = Sentences.LONG_BAD, LONG_NOT = Sentences.LONG_NOT;
    private static Sentences t;

    public static void main(String[] args) throws Exception {
        t = new Sentences(args);
        whatItIs();
        face();
        rows();
        sheets();
        kinds();
        cuts();
        commonSinceNear();
        chance();
        alarms();
        beforehand();
        faults();
        refusals();
        groups();
        promisesOfRows();
        promisesOfCosts();
        promisesOfCuts();
        promisesOfChance();
        promisesOfAlarms();
        promisesOfText();
        promisesOfSheets();
        promisesOfItems();
        promisesOfAll();
        notPromised();
        t.end();
    }

    /** VALUES of ROW 0 on the DAYS 0, 1, .. */
    private static String row(int... values) {
        return Sentences.tells(0, 0, 0, values);
    }

    /** A new object with this text, and its FAULT. */
    private static void fault(String text, int due) {
        if (text.isEmpty()) t.after();
        else t.after(Sentences.types(text));
        t.answers("fault", due);
    }

    private static void whatItIs() {
        t.next("Where it changed: rows of numbers measured by days, with gaps, told late and corrected, cut into few stretches,"
            + " each near a level, a middle, a slope, or one number: the best cuts exactly, how many are nearly as good, how many"
            + " stretches are worth their price; a cut against chance by all choices; days without which it would be simpler;"
            + " rows that change together; alarms as days go by, how soon, how often for nothing; what was told beforehand, as a"
            + " text, held against what came; all of it as it was known.");
        t.next("======== 1 DAYS are 0 ..").answers("tell 0 0 5 0", 1).answers("tell 0 -1 5 0", BAD);
        t.next("An object is used for at most 512 calls after it has been made; what later calls answer is free.")
            .after("tell 0 0 5 0");
        for (int n = 2; n <= 510; n++) t.answers("tell 0 39 6 0", n <= 200 ? n : FULL);
        t.answers("many 0", 2).answers("count 4", 200);
    }

    /** LanguageTest holds it against the class. */
    private static void face() {
        t.next("public final class LevelBreaks { public static final int NONE = -1, BAD = -2, NOT = -3, FULL = -4;"
            + " public LevelBreaks();");
        for (String call : new String[] {"int tell(int row, int day, int value, int time)",
            "int read(int s, int row, int day, int time)", "int asOf(int time)", "int least(int row, int m)",
            "int value(int row, int day)", "int many(int row)", "long cost(int row, int kind, int a, int b, int what)",
            "long best(int row, int kind, int k, int what)", "int cut(int row, int kind, int k, int i)",
            "int priced(int row, int kind, int price)", "int near(int row, int kind, int k, int p)",
            "int common(int rows, int kind, int k)", "int shared(int rows, int kind, int k, int i)",
            "int since(int row, int kind, int k)", "int doubt(int row, int k, int i)",
            "int simpler(int row, int kind, int k, int q, int i)",
            "int together(int row, int other, int kind, int k, int r, int what)",
            "int alarm(int row, int target, int slack, int limit, int way, int day)",
            "int soon(int row, int target, int slack, int limit, int way, int day, int what)",
            "int limit(int row, int target, int slack, int way, int day)", "int type(int b)", "int wipe()", "int fault()",
            "int missed(int row, int what)", "int sheet(int s, int type, int n)", "int lose(int s)",
            "int put(int s, int type, int i, int v)", "int get(int s, int type, int i)",
            "int copy(int s, int i, int t, int j, int n)", "int write(int row, int s)", "int count(int what)",
            "long digest()"}) {
            t.next("public " + call + ";");
        }
        t.next("}");
    }

    private static void rows() {
        t.next("39.").answers("tell 0 39 5 0", 1).answers("tell 0 40 5 0", BAD).answers("value 0 39", 5);
        t.next("ROWS 0 .. 3.").answers("tell 0 1 5 0", 1).answers("tell 3 1 5 0", 2).answers("tell 4 1 5 0", BAD)
            .answers("tell -1 1 5 0", BAD).answersAll("many", 1, 0, 0, 1, BAD);
        t.next("A VALUE (-1000 to 1000) of a ROW and a DAY, or that there is none (NONE told as -9999), is told at a TIME"
            + " (0 to 999; not less than the one told before, of any): 200 at most.")
            .answers("tell 0 5 -1000 0", 1).answers("tell 0 6 1000 7", 2).answers("tell 0 7 -9999 7", 3)
            .answers("tell 0 5 -1001 7", BAD).answers("tell 0 5 1001 7", BAD).answers("tell 0 5 -9998 7", BAD)
            .answers("tell 1 5 0 6", BAD).answers("tell 1 5 0 1000", BAD).answers("tell 1 5 0 -1", BAD)
            .answers("value 0 5", -1000).answers("value 0 6", 1000).answers("value 0 7", GAP).answers("value 1 5", GAP);
        for (int n = 4; n <= 200; n++) t.answers("tell 2 9 1 999", n);
        t.answers("tell 2 9 1 999", FULL);
        t.next("AS OF a TIME (999 at first) a ROW has on a DAY what was told last of it up to then; a GAP, where nothing was,"
            + " or NONE.").after("tell 0 5 1 10", "tell 0 5 2 20", "tell 0 5 3 20", "tell 0 5 -9999 30")
            .answers("value 0 5", GAP).answers("asOf 29", 999).answers("value 0 5", 3).answers("asOf 20", 29)
            .answers("value 0 5", 3).answers("asOf 19", 20).answers("value 0 5", 1).answers("asOf 9", 19)
            .answers("value 0 5", GAP).answers("value 0 6", GAP);
        t.next("N of a ROW: how many DAYS have VALUES; they are POINTS 0 .. N-1, by DAYS.")
            .after("tell 0 9 1 0", "tell 0 3 4 0", "tell 0 20 8 0", "tell 0 9 2 0", "tell 0 30 6 0", "tell 0 30 -9999 0")
            .answers("many 0", 3).answers("cost 0 0 0 1 0", 2).answers("cost 0 0 1 2 0", 18).answers("cost 0 0 2 3 0", LONG_BAD)
            .answersAll("cut 0 0 3", 3, 9, 20);
        t.next("A STRETCH is POINTS from one to another.").after(row(4, 2, 8, 8))
            .answers("cost 0 1 0 2 0", 6).answers("cost 0 1 1 3 0", 6).answers("cost 0 1 2 3 0", 0).answers("cost 0 1 1 1 0", 0);
        t.next("FRACTIONS are told in lowest terms, above and below (0 by 1).").after(row(4, 2, 8, 6))
            .answers("cost 0 0 0 2 0", 56).answers("cost 0 0 0 2 1", 3).answers("cost 0 0 0 3 0", 20)
            .answers("cost 0 0 0 3 1", 1).answers("cost 0 0 2 2 0", 0).answers("cost 0 0 2 2 1", 1);
    }

    private static void sheets() {
        t.next("SHEETS 0 .. 3 are LOST (at first) or a row of a TYPE: 0 bytes, 1 shorts, 2 ints, of 0 to 60 items"
            + " (0 at first).").answersAll("lose", NULL, NULL, NULL, NULL, BAD).answers("lose -1", BAD)
            .answers("sheet 0 0 60", 60).answers("sheet 1 1 2", 2).answers("sheet 2 2 2", 2).answers("sheet 3 0 0", 0)
            .answers("get 0 0 0", 0).answers("get 0 0 59", 0).answers("get 1 1 1", 0).answers("get 2 2 1", 0)
            .then("put 0 0 0 33000", "put 1 1 0 33000", "put 2 2 0 33000")
            .answers("get 0 0 0", -24).answers("get 1 1 0", -32536).answers("get 2 2 0", 33000)
            .answers("sheet 0 0 61", BAD).answers("sheet 0 3 1", BAD).answers("sheet 0 -1 1", BAD);
        t.next("FINDINGS (answers -10 less the number; they change nothing but count() 8):")
            .after(Sentences.known()).refuses("put 0 0 5 1", -10 - 2).answers("count 8", 2);
        t.next("1 NULL: the SHEET is LOST;").answers("lose 0", -11).answers("count 8", 1);
        t.next("2 INDEX: there is no such item;").after("sheet 0 0 2").answers("put 0 0 2 1", -12).answers("count 8", 2);
        t.next("3 CAST: it has another TYPE;").after("sheet 0 0 2").answers("put 0 1 0 1", -13).answers("count 8", 3);
        t.next("4 STORE: unlike TYPES;").after("sheet 0 0 2", "sheet 1 1 2").answers("copy 0 0 1 0 1", -14).answers("count 8", 4);
        t.next("5 SIZE: below 0.").answers("sheet 0 0 -1", -15).answers("count 8", 5);
    }

    private static void kinds() {
        t.next("======== 2 COST of a STRETCH by a KIND: 0 LEVEL: the squares of the differences of its VALUES to their mean,"
            + " together.").after(row(1, 2, 6)).answers("cost 0 0 0 2 0", 4 + 1 + 9);
        t.next("1 MIDDLE: the amounts of their differences to their middle one (of an even number the lesser of both), together.")
            .after(row(6, 1, 2, 9)).answers("cost 0 1 0 2 0", 4 + 1).answers("cost 0 1 0 3 0", 4 + 1 + 7);
        t.next("2 SLOPE: the least COST by LEVEL of all VALUES less g times their DAYS, g from -20 to 20.")
            .after(row(0, 3, 6, 10)).answers("cost 0 2 0 2 0", 0).answers("cost 0 2 0 3 0", 3).answers("cost 0 2 0 3 1", 4)
            // by 20 a DAY 60 are left, half of their square: 30 and 30 from the mean
            .after("tell 0 4 0 0", "tell 0 6 100 0").answers("cost 0 2 0 1 0", 1800)
            .after("tell 0 4 0 0", "tell 0 6 -100 0").answers("cost 0 2 0 1 0", 1800);
        t.next("3 ONE: how many are unlike the one that is most often there.").after(row(7, 8, 7, 9, 7)).answers("cost 0 3 0 4 0", 2)
            .answers("cost 0 3 0 1 0", 1);
        t.next("FRACTIONS.").after(row(0, 0, 1, 9)).answers("cost 0 0 0 2 0", 2).answers("cost 0 0 0 2 1", 3)
            .answers("cost 0 1 0 2 0", 1).answers("cost 0 1 0 2 1", 1).answers("cost 0 3 0 2 1", 1)
            .answers("best 0 0 2 0", 2).answers("best 0 0 2 1", 3);
        t.answers("cost 0 4 0 2 0", LONG_BAD).answers("cost 0 -1 0 2 0", LONG_BAD);
    }

    private static void cuts() {
        t.next("LEAST (told by ROWS, 1 to 10; 1 at first): how many POINTS a STRETCH has at the least.")
            .after(row(0, 9, 9, 9, 9, 9)).answers("cut 0 0 2 1", 1).answers("least 0 2", 1).answers("cut 0 0 2 1", 2)
            .answers("least 0 3", 2).answers("cut 0 0 2 1", 3).answers("least 0 4", 3).answers("cut 0 0 2 1", NOT)
            .answers("least 1 10", 1).answers("least 0 0", BAD).answers("least 0 11", BAD).answers("least 0 1", 4);
        t.next("CUTS into k STRETCHES (1 to 6): all POINTS, one STRETCH behind another; their COST is that of all together.")
            .after(row(0, 2, 9, 11, 30, 60, 90)).answers("best 0 0 6 0", 2).answers("best 0 0 5 0", 4)
            .answers("best 0 0 4 0", 85).answers("best 0 1 3 0", 9 + 7 + 2 + 21).answers("best 0 0 7 0", LONG_BAD)
            .answers("best 0 0 0 0", LONG_BAD).after(row(0, 2, 9, 11)).answers("best 0 0 1 0", 85).answers("best 0 0 4 0", 0);
        t.next("BEST CUTS: the least COST, of like ones the least (where the second STRETCH begins compared first, then the"
            + " third, ..).").after(row(0, 2, 9, 11)).answersAll("cut 0 0 2", 0, 2)
            .after(row(5, 5, 5, 5)).answersAll("cut 0 0 3", 0, 1, 2)
            // on 1 and 5 as dear as on 2 and 4
            .after(row(2, 1, 0, 0, 1, 2)).answersAll("cut 0 0 3", 0, 1, 5);
        t.next("NOT, where N is below k times LEAST, or 0.").answers("cut 0 0 1 0", NOT).then(row(1, 2, 3, 4), "least 0 2")
            .answers("cut 0 0 2 1", 2).answers("cut 0 0 3 1", NOT).answers("cut 1 0 1 0", NOT).then("least 0 5")
            .answers("cut 0 0 1 0", NOT).then("least 0 4").answers("cut 0 0 1 0", 0);
        t.next("PRICED: by a price for each STRETCH but the first (0 to 1000000) the number of STRETCHES (1 to 6) with the least"
            + " COST of BEST CUTS and prices together, of like ones the least.")
            // 50 in one, nothing in two; by ONE a 10 is alone in five as in six
            .after(row(0, 10)).answers("priced 0 0 49", 2).answers("priced 0 0 50", 1).answers("priced 0 0 1000000", 1)
            .answers("priced 0 0 -1", BAD).answers("priced 0 0 1000001", BAD)
            .after(row(0, 10, 0, 10, 0, 10, 0)).answers("priced 0 0 0", 6).answers("priced 0 3 0", 5).answers("priced 0 3 1", 1)
            .after(row(3, 3, 3)).answers("priced 0 0 0", 1);
    }

    private static void commonSinceNear() {
        String both = String.join("\n", row(0, 0, 0, 9, 9, 9), Sentences.tells(1, 0, 0, 5, 5, 5, 5, 1, 1));
        t.next("COMMON CUTS of some ROWS (bits, not none) by KIND 1 or 3 into k STRETCHES (1 to 6) of DAYS:").after(both)
            .answers("common 1 1 2", 0).answers("shared 1 1 2 1", 3).answers("common 2 1 2", 0).answers("shared 2 1 2 1", 4)
            .answers("common 0 1 2", BAD).answers("common 16 1 2", BAD).answers("common 3 0 2", BAD).answers("common 3 2 2", BAD)
            .answers("common 3 1 0", BAD).answers("common 3 1 7", BAD).answers("common 3 1 6", 0)
            .then("tell 2 1 1 0", "tell 3 1 1 0").answers("common 15 1 1", 27 + 8);
        t.next("all are cut at the same DAYS (1 to 39), each ROW has at least its LEAST of POINTS in each STRETCH;")
            .after("tell 0 0 3 0", "tell 0 39 9 0").answers("shared 1 1 2 0", 0).answers("shared 1 1 2 1", 1)
            .then("tell 1 38 1 0", "tell 1 39 2 0").answers("common 3 1 2", 0).answers("shared 3 1 2 1", 39)
            .then("tell 1 38 -9999 0").answers("common 3 1 2", NOT)
            .after(both, "least 1 3").answers("shared 2 1 2 1", 3).then("least 1 4").answers("common 3 1 2", NOT)
            .answers("common 1 1 2", 0).answers("common 3 1 1", 27 + 8);
        t.next("the least COST of all ROWS together, of like ones the least DAYS (the second STRETCH's first compared first);")
            // on 3: nothing and 4; on 4: 9 and nothing; by ONE both cost 1
            .after(both).answers("common 3 1 2", 4).answers("shared 3 1 2 1", 3).answers("common 3 3 2", 1)
            .answers("shared 3 3 2 1", 3).answers("common 3 3 3", 0).answers("shared 3 3 3 1", 3).answers("shared 3 3 3 2", 4);
        t.next("NOT, if there are none.").after(both).answers("common 7 1 1", NOT).answers("shared 4 3 1 0", NOT)
            .then("least 0 7").answers("common 1 1 1", NOT).answers("common 2 1 1", 8);
        t.next("SINCE: the least TIME as of which, and as of all later ones up to that AS OF which it is, the DAYS at which"
            + " STRETCHES of BEST CUTS begin are the same as they are now.")
            .after(Sentences.tells(0, 0, 10, 0, 0, 9, 9), "tell 0 1 9 20", "tell 0 1 0 30", "tell 0 3 8 40", "tell 1 0 0 50")
            .answers("since 0 0 2", 30).then("asOf 29").answers("since 0 0 2", 20).then("asOf 19").answers("since 0 0 2", 10)
            .then("asOf 10").answers("since 0 0 2", 10).answers("since 0 0 1", 10).then("asOf 999").answers("since 0 0 1", 10)
            .after(Sentences.tells(0, 0, 10, 0, 0, 9, 9), "tell 0 1 9 11", "tell 0 1 0 12").answers("since 0 0 2", 12)
            .then("asOf 11").answers("since 0 0 2", 11);
        t.next("NEAR: how many CUTS into k STRETCHES (2, 3) have a COST of at most that of the BEST, and a hundredth of it times p"
            + " (0 to 1000) more.").after(row(0, 2, 6)).answers("near 0 1 2 99", 1).answers("near 0 1 2 100", 2)
            .answers("near 0 1 3 0", 1).answers("near 0 1 1 0", BAD).answers("near 0 1 4 0", BAD)
            .answers("near 0 1 2 -1", BAD).answers("near 0 1 2 1001", BAD)
            // 1 and ten times 1 more is 11: so dear is the other
            .after(row(0, 1, 12)).answers("near 0 1 2 1000", 2).answers("near 0 1 2 999", 1)
            // 8 / 3 and half of it more is 4, twice of it 8
            .after(row(2, 0, 2, 4)).answers("near 0 0 2 49", 1).answers("near 0 0 2 50", 2).answers("near 0 0 2 199", 2)
            .answers("near 0 0 2 200", 3);
    }

    private static void chance() {
        t.next("======== 3 DOUBT of a cut: two STRETCHES of BEST CUTS beside one another (LEVEL), 16 POINTS together at most"
            + " (FULL):").after(row(0, 0, 0, 0, 0, 0, 0, 0, 9, 9, 9, 9, 9, 9, 9, 9)).answers("doubt 0 2 1", 155)
            .then("tell 0 16 9 0").answers("doubt 0 2 1", FULL);
        t.next("of all ways to choose as many POINTS of both as the first has, the share in which the sum of VALUES of those"
            + " chosen is as far, or farther, from the sum of all times the share of how many (compared exactly) as the first's"
            + " is; in millionths, rounded down.")
            // two of six; of 0, 0, 9 one 9 is farther from a third of it than a 0 and a 0; one of five
            .after(row(0, 0, 9, 9)).answers("doubt 0 2 1", 333333).after(row(0, 0, 9)).answers("doubt 0 2 1", 333333)
            .after(row(0, 9, 9)).answers("doubt 0 2 1", 333333).after(row(7, 0, 0, 0, 0)).answers("doubt 0 2 1", 200000)
            .after(row(5, 5)).answers("doubt 0 2 1", 1000000)
            .after(row(0, 0, 9, 9, 50, 50)).answers("doubt 0 3 1", 333333).answers("doubt 0 3 2", 333333);
        t.next("SIMPLER: the q POINTS (1, 2) without which the COST of BEST CUTS into k STRETCHES is least, of like ones the least"
            + " DAYS;").after(row(0, 0, 30, 0, 9, 9)).answers("simpler 0 0 2 1 0", 2)
            .after(row(5, 50, 5, 5, 70, 5)).answers("simpler 0 0 1 1 0", 4).answersAll("simpler 0 0 1 2", 1, 4)
            .answersAll("simpler 0 1 1 2", 1, 4)
            // two of six are 3 a DAY more beside the others; three 7 are left without 8 and 9
            .after(row(0, 3, 90, 9, -50, 15)).answersAll("simpler 0 2 1 2", 2, 4)
            .after(row(0, 3, 6, 40, 12)).answers("simpler 0 2 1 1 0", 3)
            .after(row(7, 8, 7, 9, 7)).answers("simpler 0 3 1 1 0", 1).answersAll("simpler 0 3 1 2", 1, 3)
            .after(row(5, 5, 5)).answers("simpler 0 0 1 1 0", 0).answersAll("simpler 0 0 1 2", 0, 1)
            .answers("simpler 0 0 1 0 0", BAD).answers("simpler 0 0 1 3 0", BAD);
        t.next("NOT, where N less q is below k times LEAST, or q and 1 are above N.").after(row(1, 2, 3, 4))
            .answers("simpler 0 0 3 1 0", 0).answers("simpler 0 0 3 2 0", NOT).answers("simpler 0 0 2 2 0", 0).then("least 0 2")
            .answers("simpler 0 0 1 2 0", 0).answers("simpler 0 0 2 1 0", NOT)
            .after(row(1, 2)).answers("simpler 0 0 1 1 0", 0).answers("simpler 0 0 1 2 0", NOT).answers("simpler 1 0 1 1 0", NOT);
        // cuts on the DAYS 2 and 4, and on 2 and 30
        String both = String.join("\n", row(0, 0, 50, 50, 9, 9), Sentences.tells(1, 0, 0, 0, 0, 50, 50), Sentences.tells(1, 30, 0, 9, 9));
        t.next("TOGETHER: of two ROWS cut each into k STRETCHES (2 to 6): how many of the first's cuts (the DAYS at which"
            + " STRETCHES but the first begin) are no more than r DAYS (0 to 9) from one of the second's.").after(both)
            .answers("together 0 1 0 3 0 0", 1).answers("together 0 1 0 3 1 0", 1).answers("together 0 1 0 3 2 0", 2)
            .answers("together 1 0 0 3 9 0", 1).answers("together 0 1 0 3 10 0", BAD).answers("together 0 1 0 3 -1 0", BAD)
            .answers("together 0 1 0 1 0 0", BAD).answers("together 0 1 0 7 0 0", BAD).answers("together 0 1 0 6 0 0", 3);
        t.next("CHANCE: of all ways to put as many cuts as the first has on the DAYS 1 to 39 the share in which at least so many"
            + " are so near; in millionths, rounded down.").after(both)
            // 75 of 741 have one of two DAYS; of the 10 DAYS 1 to 4 and 28 to 32 (9 of them) both: 36 of 741
            .answers("together 0 1 0 3 0 1", 101214).answers("together 0 1 0 3 2 1", 48582)
            .after(row(0, 9), "tell 1 30 0 0", "tell 1 39 9 0").answers("together 0 1 0 2 0 1", 1000000)
            .answers("together 0 1 0 2 9 0", 0);
    }

    private static void alarms() {
        String row = "tell 0 0 12 0\ntell 0 2 15 0\ntell 0 3 10 0\ntell 0 4 30 0";
        t.next("======== 4 ALARM of a ROW by a TARGET (-1000 to 1000), a SLACK (0 to 1000), a LIMIT (1 to 100000), a way (0 up,"
            + " 1 down): a SUM of 0 at first; DAY by DAY (GAPS aside) it becomes SUM and (VALUE less TARGET, down: TARGET less"
            + " VALUE) less SLACK, 0 at least; an ALARM on the DAY by which it comes to LIMIT or more: SUM is 0 then.")
            // up: 1, 5 and 0, 0, 19 and 0; with 6: 1, 5, 4, 23 and 0; down: 8, 13 and 0, 10 and 0, 0
            .after(row).answers("alarm 0 10 1 5 0 -1", 2).answersAll("alarm 0 10 1 5 0", 0, 0, 1, 0, 1)
            .answers("alarm 0 10 1 6 0 -1", 1).answers("alarm 0 10 1 6 0 4", 1).answers("alarm 0 10 1 23 0 4", 1)
            .answers("alarm 0 10 1 24 0 4", 0).answersAll("alarm 0 20 0 10 1", 0, 0, 1, 1, 0).answers("alarm 0 1000 0 1 0 -1", 0)
            .after(row(5, 4, 1)).answersAll("alarm 0 0 0 5 0", 1, 0, 1)
            .answers("alarm 0 -1000 1000 100000 0 -1", 0).answers("alarm 0 -1001 0 1 0 -1", BAD)
            .answers("alarm 0 1001 0 1 0 -1", BAD).answers("alarm 0 0 -1 1 0 -1", BAD).answers("alarm 0 0 1001 1 0 -1", BAD)
            .answers("alarm 0 0 0 0 0 -1", BAD).answers("alarm 0 0 0 100001 0 -1", BAD).answers("alarm 0 0 0 1 2 -1", BAD);
        t.next("HOW SOON behind a DAY: how many DAYS from it to the first ALARM on it or later; NONE.").after(row)
            .answers("soon 0 10 1 5 0 0 0", 2).answers("soon 0 10 1 5 0 2 0", 0).answers("soon 0 10 1 5 0 3 0", 1)
            .answers("soon 0 10 1 5 0 4 0", 0).answers("soon 0 10 1 5 0 5 0", NONE).answers("soon 1 10 1 5 0 0 0", NONE);
        t.next("FOR NOTHING are ALARMS on DAYS before a DAY.").after(row).answers("soon 0 10 1 5 0 2 1", 0)
            .answers("soon 0 10 1 5 0 3 1", 1).answers("soon 0 10 1 5 0 4 1", 1).answers("soon 0 10 1 5 0 39 1", 2);
        t.next("BEST LIMIT: of LIMITS 1 to 2000 the least by which there is an ALARM on a DAY or later (till 39), and none before"
            + " it; NONE.").after(row).answers("limit 0 10 1 0 4", 6).answers("limit 0 10 1 0 2", 2).answers("limit 0 10 1 0 0", 1)
            .answers("limit 0 10 1 0 5", NONE).after(row(4, 1)).answers("limit 0 0 0 0 1", 5).after(row(1000, 999, 1000)).answers("limit 0 0 0 0 1", 1001)
            .answers("limit 0 0 0 0 2", 2000).then("tell 0 1 1000 0").answers("limit 0 0 0 0 2", NONE);
    }

    private static void beforehand() {
        t.next("======== 5 TOLD BEFOREHAND: a text of up to 100 bytes: parts with ; between them: a DAY (one or two figures), then"
            + " = and a number, or ~ and a number and a number, with , between them;");
        fault("5=7", NONE);
        fault("05~7,8;39=1;", 12);
        fault("05~7,8;39=1", NONE);
        fault("5=7,8", 3);
        fault("5~7", 3);
        fault("5~7;6=1", 3);
        fault("5:7", 1);
        fault("123=4", 2);
        fault("=4", 0);
        fault("5=7 ;6=1", 3);
        StringBuilder parts = new StringBuilder("0~0,0");
        for (int day = 1; day <= 20; day++) parts.append(";" + day + "=" + day % 10);
        fault(parts.append(";39=").toString(), 100);
        t.answers("type 48", FULL).answers("count 7", 100);
        t.next("numbers are one to four figures, perhaps a - ahead, from -1000 to 1000 (the second, behind a , , 0 to 1000):");
        fault("1=1000", NONE);
        fault("1=-1000", NONE);
        fault("1=0001", NONE);
        fault("1=-0", NONE);
        fault("1=1001", 2);
        fault("1=-1001", 2);
        fault("1=00001", 6);
        fault("1=--1", 3);
        fault("1=+1", 2);
        fault("1~-9,1000", NONE);
        fault("1~-9,0", NONE);
        fault("1~-9,1001", 5);
        fault("1~-9,-1", 5);
        t.next("from that DAY on (to the next part's) the VALUE is to be that, or within so much of the first.")
            .after(Sentences.types("2=5;4~10,3"), row(99, 99, 5, 7, 14, 7), "tell 0 39 6 0").answers("missed 0 0", 2 + 1 + 1)
            .then("tell 0 39 13 0").answers("missed 0 0", 3).then("tell 0 4 -9999 0").answers("missed 0 0", 2);
        t.next("Each DAY is later than the one ahead.");
        fault("3=1;4=1", NONE);
        fault("3=1;3=1", 4);
        fault("3=1;10=1;9=1", 9);
    }

    private static void faults() {
        t.next("The FAULT is the place of the first byte with which it cannot go on (of an empty text 0), or of the first byte of a"
            + " number that may not be (of a DAY, too).");
        fault("", 0);
        fault("x", 0);
        fault("3", 1);
        fault("3=", 2);
        fault("3=-", 3);
        fault("3=1;", 4);
        fault("3=1;;", 4);
        fault("3=1x", 3);
        fault("3~1,", 4);
        fault("40=1", 0);
        fault("99", 0);
        fault("3=1;40=1", 4);
        fault("3=2000x", 2);
        fault("3~-2000,x", 2);
        t.next("MISSED: by how much VALUES of a ROW are off what was told, together (DAYS ahead of the first part's aside);")
            .after(Sentences.types("2=-5;3~0,2"), row(1000, 1000, 5, 5, -5)).answers("missed 0 0", 10 + 3 + 3)
            .answers("missed 1 0", 0);
        t.next("WORST: the DAY that is off most, of like ones the first; NONE, if none is.")
            .after(Sentences.types("2=0"), row(1000, 1000, 5, -8, 8)).answers("missed 0 1", 3).then("tell 0 4 9 0")
            .answers("missed 0 1", 4).answers("missed 1 1", NONE).then("tell 1 2 0 0", "tell 1 1 9 0").answers("missed 1 1", NONE)
            .after(Sentences.types("0=0"), "tell 0 0 1 0").answers("missed 0 1", 0).answers("missed 0 0", 1);
    }

    private static void refusals() {
        t.next("Refusals, the first that fits, in the order told at each act: BAD -2 (a number not as told, no such thing), NULL,"
            + " INDEX, NOT -3, FULL -4, other FINDINGS.")
            .answers("read 0 4 0 0", -2).answers("read 0 0 0 0", NULL).answers("cut 0 0 2 2", -2).answers("cut 0 0 2 1", -3)
            .answers("doubt 0 2 2", -2).answers("doubt 0 2 1", -3).answers("sheet 4 0 -1", -2).answers("sheet 0 0 -1", SIZE)
            .then("sheet 0 0 1").answers("put 0 3 9 9", -2).answers("put 1 1 9 9", NULL).answers("put 0 1 9 9", CAST)
            .answers("put 0 0 9 9", INDEX).then("sheet 1 1 1").answers("copy 0 9 4 9 9", -2).answers("copy 0 9 2 9 9", NULL)
            .answers("copy 0 9 1 9 9", STORE).answers("copy 0 9 0 9 9", INDEX);
        t.next("They change nothing (FINDINGS but count() 8).").after(Sentences.known()).refuses("tell 0 5 7 19", BAD)
            .refuses("read 0 0 40 20", BAD).refuses("asOf 1000", BAD).refuses("least 0 11", BAD).refuses("cut 0 0 2 2", BAD)
            .refuses("type 256", BAD).refuses("sheet 0 0 61", BAD).refuses("sheet 0 0 -1", SIZE).refuses("put 0 0 5 1", INDEX)
            .refuses("put 0 1 0 1", CAST).refuses("copy 0 0 1 0 1", STORE).refuses("copy 0 0 3 1 3", INDEX);
        t.next("Where the answer is a long, a refusal -x is the least long and x more.")
            .answers("best 0 0 0 0", Long.MIN_VALUE + 2).answers("best 0 0 1 0", Long.MIN_VALUE + 3)
            .answers("cost 0 0 0 0 0", Long.MIN_VALUE + 2);
    }

    /** What stands ahead of the calls in the interface: no call answers it. */
    private static void groups() {
        t.next("Ahead of the calls `tell`, `read`, `asOf`, `least`, `value`, `many` the interface says: ---- rows.");
        t.next("Ahead of the calls `cost`, `best`, `cut`, `priced`, `near`, `common`, `shared`, `since` the interface says:"
            + " ---- costs, cuts.");
        t.next("Ahead of the calls `doubt`, `simpler`, `together` the interface says: ---- chance.");
        t.next("Ahead of the calls `alarm`, `soon`, `limit` the interface says: ---- alarms.");
        t.next("Ahead of the calls `type`, `wipe`, `fault`, `missed` the interface says: ---- beforehand.");
        t.next("Ahead of the calls `sheet`, `lose`, `put`, `get`, `copy`, `write`, `count`, `digest` the interface says:"
            + " ---- sheets.");
    }

    private static void promisesOfRows() {
        t.next("`LevelBreaks()`:").answersAll("count", 0, 0, 0, 0, 0, 999, 0, 0, 0, BAD);
        t.next("Nothing is told; all SHEETS are LOST.").answers("count 4", 0).answersAll("many", 0, 0, 0, 0)
            .answersAll("lose", NULL, NULL, NULL, NULL).answers("fault", 0);
        t.next("`int tell(int row, int day, int value, int time)`: A VALUE (-9999: there is none) is told at a TIME: how many were.")
            .answers("tell 2 9 7 3", 1).answers("tell 2 9 -9999 3", 2).answers("tell 1 9 7 4", 3).answers("value 2 9", GAP)
            .answers("value 1 9", 7);
        t.next("BAD: also a TIME that is less than the one before; FULL.").after("tell 0 0 1 5").answers("tell 1 1 1 4", BAD)
            .answers("tell 1 1 1 5", 2).after(Sentences.toldFull()).answers("tell 0 0 1 19", BAD).answers("tell 0 0 1 20", FULL);
        t.next("`int read(int s, int row, int day, int time)`: VALUES of a SHEET for DAYS from one on are told at a TIME, as many as"
            + " are items, as long as each may be: how many.").after(Sentences.sheet(0, 2, 7, GAP, 8, 1001, 9), "tell 1 6 5 0")
            .answers("read 0 1 5 3", 3).answers("value 1 5", 7).answers("value 1 6", GAP).answers("value 1 7", 8)
            .answers("value 1 8", GAP).answers("count 4", 4).answers("count 6", 3).answers("read 0 1 38 3", 2)
            .answers("read 0 1 39 4", 1).then("put 0 2 0 1001").answers("read 0 1 5 9", 0).answers("count 6", 4)
            .then("sheet 0 0 0").answers("read 0 1 5 9", 0)
            // 199 told: one more, then none
            .after(Sentences.toldFull()).answers("read 0 0 0 20", 0).answers("count 4", 200);
        t.next("BAD; NULL.").answers("read 0 0 0 0", NULL).answers("read 4 0 0 0", BAD).answers("read 0 4 0 0", BAD)
            .answers("read 0 0 40 0", BAD).answers("read 0 0 0 1000", BAD);
        t.next("`int asOf(int time)`: AS OF a TIME: what it was.").answers("asOf 0", 999).answers("asOf 7", 0).answers("asOf 999", 7);
        t.next("BAD.").answers("asOf -1", BAD).answers("asOf 1000", BAD).answers("count 5", 999);
        t.next("`int least(int row, int m)`: LEAST of a ROW: what it was.").answers("least 3 10", 1).answers("least 3 2", 10)
            .answers("least 2 2", 1);
        t.next("BAD.").answers("least 4 1", BAD).answers("least 0 0", BAD).answers("least 0 11", BAD);
        t.next("`int value(int row, int day)`: What a ROW has on a DAY; a GAP: -9999.").after("tell 3 39 -1000 0")
            .answers("value 3 39", -1000).answers("value 3 38", -9999);
        t.next("BAD: -10000.").answers("value 4 0", -10000).answers("value 0 40", -10000).answers("value 0 -1", -10000);
        t.next("`int many(int row)`: N.").after("tell 0 1 1 0", "tell 0 2 1 0", "tell 0 1 2 0").answersAll("many", 2, 0, 0, 0);
        t.next("BAD.").answers("many 4", BAD).answers("many -1", BAD);
    }

    private static void promisesOfCosts() {
        t.next("`long cost(int row, int kind, int a, int b, int what)`: COST of the STRETCH of POINTS a to b: above (what = 0),"
            + " below (1).").after(row(9, 0, 0, 1, 9)).answers("cost 0 0 1 3 0", 2).answers("cost 0 0 1 3 1", 3)
            .answers("cost 0 0 4 4 0", 0).answers("cost 0 0 4 4 1", 1);
        t.next("BAD: also a above b.").after(row(1, 2)).answers("cost 0 0 1 0 0", LONG_BAD).answers("cost 0 0 0 2 0", LONG_BAD)
            .answers("cost 0 0 -1 0 0", LONG_BAD).answers("cost 0 0 0 1 2", LONG_BAD).answers("cost 4 0 0 0 0", LONG_BAD);
        t.next("(As the least long.)").answers("cost 0 0 0 0 0", -9223372036854775806L);
        t.next("`long best(int row, int kind, int k, int what)`: COST of BEST CUTS into k STRETCHES: above, below.")
            .after(row(0, 1, 9, 9, 8)).answers("best 0 0 2 0", 7).answers("best 0 0 2 1", 6).answers("best 0 1 2 0", 2)
            .answers("best 0 1 2 1", 1);
        t.next("BAD; NOT.").after(row(1, 2)).answers("best 0 0 2 2", LONG_BAD).answers("best 0 4 3 0", LONG_BAD)
            .answers("best 0 0 3 0", LONG_NOT);
        t.next("(As the least long.)").answers("best 0 0 0 0", -9223372036854775806L).answers("best 0 0 1 0", -9223372036854775805L);
    }

    private static void promisesOfCuts() {
        t.next("`int cut(int row, int kind, int k, int i)`: The DAY of the POINT at which STRETCH i of BEST CUTS begins.")
            .after("tell 0 3 5 0", "tell 0 9 5 0", "tell 0 27 8 0").answersAll("cut 0 0 2", 3, 27).answersAll("cut 0 0 3", 3, 9, 27);
        t.next("BAD: i below 0, k and more; NOT.").answers("cut 4 0 2 1", BAD).answers("cut 0 4 2 1", BAD).answers("cut 0 0 2 -1", BAD).answers("cut 0 0 2 2", BAD).answers("cut 0 0 2 1", NOT);
        t.next("`int priced(int row, int kind, int price)`: PRICED.").after(row(0, 0, 9, 9)).answers("priced 0 1 17", 2)
            .answers("priced 0 1 18", 1);
        t.next("BAD; NOT: N is below LEAST, or 0.").answers("priced 0 4 0", BAD).answers("priced 0 0 0", NOT)
            .then(row(1, 2), "least 0 3").answers("priced 0 0 0", NOT).then("least 0 2").answers("priced 0 0 0", 1);
        t.next("`int near(int row, int kind, int k, int p)`: NEAR.").after(row(4, 4, 4, 4)).answers("near 0 0 2 0", 3)
            .answers("near 0 0 3 0", 3);
        t.next("BAD; NOT.").answers("near 4 0 2 0", BAD).answers("near 0 4 2 0", BAD).answers("near 0 0 4 0", BAD).answers("near 0 0 2 0", NOT);
        t.next("`int common(int rows, int kind, int k)`: COST of COMMON CUTS.").after(row(0, 9), "tell 3 0 2 0", "tell 3 1 4 0")
            .answers("common 9 1 1", 11).answers("common 9 3 1", 2).answers("common 9 1 2", 0);
        t.next("BAD; NOT.").answers("common 1 2 1", BAD).answers("common 1 1 1", NOT);
        t.next("`int shared(int rows, int kind, int k, int i)`: The DAY at which STRETCH i of COMMON CUTS begins (the first: 0).")
            .after("tell 0 5 0 0", "tell 0 8 9 0").answers("shared 1 1 2 0", 0).answers("shared 1 1 2 1", 6);
        t.next("BAD; NOT.").answers("shared 0 1 2 1", BAD).answers("shared 1 0 2 1", BAD).answers("shared 1 1 2 2", BAD).answers("shared 1 1 2 -1", BAD).answers("shared 1 1 2 1", NOT);
        t.next("`int since(int row, int kind, int k)`: SINCE.").after("tell 0 1 1 7", "tell 0 2 9 9").answers("since 0 0 1", 7)
            .answers("since 0 0 2", 9);
        t.next("BAD; NOT: there are no BEST CUTS now.").answers("since 4 0 1", BAD).answers("since 0 4 1", BAD).answers("since 0 0 7", BAD).answers("since 0 0 1", NOT)
            .then("tell 0 1 1 7", "tell 0 1 -9999 8").answers("since 0 0 1", NOT);
    }

    private static void promisesOfChance() {
        t.next("`int doubt(int row, int k, int i)`: DOUBT of the cut at which STRETCH i (1 to k less 1) begins.")
            // a 0 of 0, 0, 0, 9; then a 9 of 9, 50, 50
            .after(row(0, 0, 0, 9, 50, 50)).answers("doubt 0 3 1", 250000).answers("doubt 0 3 2", 333333);
        t.next("BAD; NOT; FULL.").answers("doubt 4 2 1", BAD).answers("doubt 0 2 0", BAD).answers("doubt 0 2 2", BAD).answers("doubt 0 1 1", BAD)
            .answers("doubt 0 2 1", NOT).then(row(1, 1, 1, 1, 1, 1, 1, 1, 1, 1, 1, 1, 1, 1, 1, 1, 9)).answers("doubt 0 2 1", FULL)
            .answers("doubt 0 3 1", 1000000).answers("doubt 0 3 2", 62500);
        t.next("`int simpler(int row, int kind, int k, int q, int i)`: DAY i (from 0, q less 1 at most) of SIMPLER.")
            .after("tell 0 4 1 0", "tell 0 6 70 0", "tell 0 9 1 0", "tell 0 30 90 0").answersAll("simpler 0 1 1 2", 6, 30)
            .answers("simpler 0 1 1 1 0", 30);
        t.next("BAD; NOT.").answers("simpler 4 0 1 1 0", BAD).answers("simpler 0 4 1 1 0", BAD).answers("simpler 0 0 1 1 1", BAD).answers("simpler 0 0 1 2 2", BAD).answers("simpler 0 0 1 1 0", NOT);
        t.next("`int together(int row, int other, int kind, int k, int r, int what)`: TOGETHER: how many (what = 0), CHANCE (1).")
            .after(row(0, 0, 0, 9), Sentences.tells(1, 0, 0, 0, 0, 9, 9)).answers("together 0 1 0 2 1 0", 1)
            .answers("together 0 1 0 2 1 1", 76923);
        t.next("BAD: also a ROW with itself; NOT, as of one of both.").after(row(0, 9)).answers("together 0 0 0 2 1 0", BAD)
            .answers("together 0 1 0 2 1 0", NOT).answers("together 1 0 0 2 1 0", NOT).answers("together 0 1 0 2 1 2", BAD)
            .answers("together 0 4 0 2 1 0", BAD).answers("together 4 0 0 2 1 0", BAD).answers("together 0 1 4 2 1 0", BAD);
    }

    private static void promisesOfAlarms() {
        t.next("`int alarm(int row, int target, int slack, int limit, int way, int day)`: ALARMS: how many (day = NONE), whether there"
            + " is one on a DAY.").after(row(5, 0, 5)).answers("alarm 0 0 0 5 0 -1", 2).answersAll("alarm 0 0 0 5 0", 1, 0, 1, 0);
        t.next("BAD.").answers("alarm 4 0 0 5 0 -1", BAD).answers("alarm 0 0 0 5 0 40", BAD).answers("alarm 0 0 0 5 0 -2", BAD);
        t.next("`int soon(int row, int target, int slack, int limit, int way, int day, int what)`: HOW SOON behind a DAY (what = 0);"
            + " FOR NOTHING before it (1).").after(row(5, 0, 5)).answers("soon 0 0 0 5 0 1 0", 1).answers("soon 0 0 0 5 0 2 1", 1);
        t.next("BAD.").answers("soon 4 0 0 5 0 0 0", BAD).answers("soon 0 0 0 0 0 0 0", BAD).answers("soon 0 0 0 5 0 -1 0", BAD).answers("soon 0 0 0 5 0 40 0", BAD).answers("soon 0 0 0 5 0 0 2", BAD);
        t.next("`int limit(int row, int target, int slack, int way, int day)`: BEST LIMIT.").after(row(5, 0, -2, 7))
            .answers("limit 0 0 0 0 3", 6).answers("limit 0 0 0 1 3", NONE).answers("limit 0 0 0 1 2", 1);
        t.next("BAD.").answers("limit 0 0 0 2 0", BAD).answers("limit 0 0 0 0 40", BAD).answers("limit 0 0 0 0 -1", BAD);
    }

    private static void promisesOfText() {
        t.next("`int type(int b)`: A byte (0 to 255) comes behind the text: how many.").answers("type 0", 1).answers("type 255", 2)
            .after("type 57").answers("type 61", 2).answers("type 49", 3).answers("fault", NONE);
        t.next("BAD; FULL.").answers("type -1", BAD).answers("type 256", BAD);
        for (int n = 1; n <= 100; n++) t.answers("type 49", n);
        t.answers("type 256", BAD).answers("type 49", FULL);
        t.next("`int wipe()`: The text is empty: how many bytes it had.").after(Sentences.types("1=1")).answers("wipe", 3)
            .answers("wipe", 0).answers("fault", 0).answers("count 7", 0);
        t.next("`int fault()`: The FAULT; NONE.").after(Sentences.types("1=1")).answers("fault", -1).then("type 59").answers("fault", 4);
        t.next("`int missed(int row, int what)`: MISSED (what = 0), WORST (1).").after(Sentences.types("1=1"), row(0, 0, 5))
            .answers("missed 0 0", 5).answers("missed 0 1", 2);
        t.next("BAD; NOT: a FAULT.").answers("missed 4 0", BAD).answers("missed 0 2", BAD).answers("missed 0 0", NOT)
            .answers("missed 0 1", NOT);
    }

    private static void promisesOfSheets() {
        t.next("`int sheet(int s, int type, int n)`: A SHEET is a new row of a TYPE with n items: n.").answers("sheet 0 2 3", 3)
            .then("put 0 2 1 7").answers("sheet 0 2 2", 2).answers("get 0 2 1", 0).answers("get 0 2 2", LOW).answers("sheet 0 1 0", 0);
        t.next("BAD: SHEET, TYPE, above 60; SIZE.").answers("sheet 4 0 1", BAD).answers("sheet 0 3 1", BAD).answers("sheet 0 0 61", BAD)
            .answers("sheet 0 0 -1", SIZE).answers("sheet 4 0 -1", BAD).answers("lose 0", NULL);
        t.next("`int lose(int s)`: It is LOST: how many items it had.").after("sheet 0 2 3").answers("lose 0", 3).answers("lose 0", NULL);
        t.next("BAD; NULL.").answers("lose 4", BAD).answers("lose 3", NULL).answers("count 8", 1);
        t.next("`int put(int s, int type, int i, int v)`: Item i, treated as of a TYPE, becomes v (the lowest bits that it has): 1.")
            .after("sheet 0 0 2", "sheet 1 1 2", "sheet 2 2 2").answers("put 0 0 1 200", 1).answers("get 0 0 1", -56)
            .answers("put 1 1 1 -40000", 1).answers("get 1 1 1", 25536).answers("put 2 2 1 -40000", 1).answers("get 2 2 1", -40000)
            .answers("get 2 2 0", 0);
        t.next("BAD; NULL; CAST; INDEX.").after("sheet 0 0 2").answers("put 0 3 0 0", BAD).answers("put 4 0 0 0", BAD)
            .answers("put 1 0 9 0", NULL).answers("put 0 1 9 0", CAST).answers("put 0 0 2 0", INDEX).answers("put 0 0 -1 0", INDEX);
        t.next("`int get(int s, int type, int i)`: Item i of it.").after(Sentences.sheet(0, 1, 4, 5, -6)).answersAll("get 0 1", 4, 5, -6);
        t.next("BAD: the least int; so are NULL, CAST, INDEX (count() 8 tells).").after("sheet 0 0 2").answers("get 4 0 0", LOW)
            .answers("get 0 3 0", LOW).answers("count 8", 0).answers("get 1 0 0", LOW).answers("count 8", 1)
            .answers("get 0 1 9", LOW).answers("count 8", 3).answers("get 0 0 2", LOW).answers("count 8", 2);
    }

    private static void promisesOfItems() {
        t.next("`int copy(int s, int i, int t, int j, int n)`: n items of SHEET s, from i on, come to SHEET t (perhaps s, as they were),"
            + " from j on: 1.").after(Sentences.sheet(0, 0, 1, 2, 3, 4), Sentences.sheet(1, 0, 9, 9, 9))
            .answers("copy 0 1 1 0 2", 1).answersAll("get 1 0", 2, 3, 9).answers("copy 0 0 0 1 3", 1).answersAll("get 0 0", 1, 1, 2, 3)
            .answers("copy 0 1 0 0 3", 1).answersAll("get 0 0", 1, 2, 3, 3).answers("copy 0 4 1 3 0", 1)
            .answers("copy 0 1 1 0 3", 1).answersAll("get 1 0", 2, 3, 3);
        t.next("BAD: the SHEETS; NULL: s, t; STORE; INDEX: below 0, not so many.").after("sheet 0 0 4", "sheet 1 0 3", "sheet 2 1 4")
            .answers("copy 4 0 0 0 1", BAD).answers("copy 0 0 -1 0 1", BAD).answers("copy 3 0 0 0 1", NULL)
            .answers("copy 0 0 3 0 1", NULL).answers("copy 0 0 2 0 9", STORE).answers("copy 0 -1 1 0 1", INDEX)
            .answers("copy 0 0 1 -1 1", INDEX).answers("copy 0 0 1 0 -1", INDEX).answers("copy 0 0 1 0 4", INDEX)
            .answers("copy 0 3 1 0 2", INDEX).answers("copy 0 5 1 0 0", INDEX).answers("copy 0 2147483647 1 0 2147483647", INDEX);
        t.next("`int write(int row, int s)`: VALUES of a ROW by DAYS (GAPS: -9999, the lowest bits of it) come to a SHEET from item 0 on,"
            + " as many as there are items and DAYS: how many.").after(row(7, 300), "sheet 0 0 60", "sheet 1 1 3", "put 0 0 40 5")
            .answers("write 0 0", 40).answersAll("get 0 0", 7, 44, -15).answers("get 0 0 39", -15).answers("get 0 0 40", 5)
            .answers("write 0 1", 3).answersAll("get 1 1", 7, 300, -9999);
        t.next("BAD; NULL.").answers("write 4 0", BAD).answers("write 0 4", BAD).answers("write 0 0", NULL);
    }

    private static void promisesOfAll() {
        t.next("`int count(int what)`: 0 to 3 N of ROWS, 4 how many VALUES were told, 5 AS OF, 6 the TIME that was told last (0 at"
            + " first), 7 bytes of the text, 8 the number of the latest FINDING (0 before any).")
            .answersAll("count", 0, 0, 0, 0, 0, 999, 0, 0, 0)
            .then("tell 0 0 1 5", "tell 0 1 1 5", "tell 1 0 1 6", "tell 3 0 -9999 7", "asOf 6", "type 1", "sheet 0 0 -1", "lose 0")
            .answersAll("count", 2, 1, 0, 0, 4, 6, 7, 1, 1);
        t.next("BAD.").answers("count 9", BAD).answers("count -1", BAD);
        t.next("`long digest()`: h is 17; h becomes 31 h and each of: count() 0 to 7; of ROWS all VALUES by DAYS; of each ROW and KIND"
            + " best() of 2 STRETCHES, above and below (-3 each: NOT); fault(); as longs that wrap.").answers("digest", newDigest())
            .then(row(0, 0, 1, 9), "tell 3 0 5 0", "tell 3 39 4 0", Sentences.types("1=1")).answers("digest", laterDigest());
    }

    private static long with(long h, long... more) {
        for (long each : more) h = 31 * h + each;
        return h;
    }

    private static long newDigest() {
        long h = with(17, 0, 0, 0, 0, 0, 999, 0, 0);
        for (int n = 0; n < 160; n++) h = with(h, -9999);
        for (int n = 0; n < 32; n++) h = with(h, -3);
        return with(h, 0);
    }

    /** 0, 0, 1 and 9: two thirds by LEVEL, 1 by MIDDLE and by ONE; by SLOPE nothing, as 1 to 9 is 8 a DAY; ROW 3: nothing. */
    private static long laterDigest() {
        long h = with(17, 4, 0, 0, 2, 6, 999, 0, 3);
        h = with(h, 0, 0, 1, 9);
        for (int n = 4; n < 160; n++) h = with(h, n == 120 ? 5 : n == 159 ? 4 : -9999);
        h = with(h, 2, 3, 1, 1, 0, 1, 1, 1);
        for (int n = 8; n < 24; n++) h = with(h, -3);
        h = with(h, 0, 1, 0, 1, 0, 1, 0, 1);
        return with(h, -1);
    }

    private static void notPromised() {
        t.next("How the state is held inside the object is free, as are the speed of each call, the text of toString and the behaviour"
            + " of equals and hashCode.");
        t.next("Use of one object from several threads at once is not promised to be safe.");
        t.next("Nothing is promised beyond the answers and state changes described above, and nothing about an object after its 512th"
            + " call.");
        if (!t.isWholeDocument()) throw new IllegalStateException("the document has more words");
    }
}
