/** Of like ones: for each sentence that says which of two comes, a case where both are exactly alike. */
public final class LikeOnesTest {
    private static final int NONE = Sentences.NONE;
    private static Sentences t;

    public static void main(String[] args) throws Exception {
        t = new Sentences(args);
        lowestTerms();
        middleAndOne();
        bestCuts();
        priced();
        near();
        commonCuts();
        doubt();
        simpler();
        together();
        alarms();
        bestLimit();
        worst();
        allSmallRows();
        t.end();
    }

    private static String row(int... values) {
        return Sentences.tells(0, 0, 0, values);
    }

    private static void lowestTerms() {
        t.says(8, "FRACTIONS are told in lowest terms, above and below (0 by 1)");
        t.after(row(5, 5, 5)).answers("cost 0 0 0 2 0", 0).answers("cost 0 0 0 2 1", 1)
            .answers("cost 0 2 0 2 0", 0).answers("cost 0 2 0 2 1", 1);
        t.after(row(0, 1, 2)).answers("cost 0 0 0 2 0", 2).answers("cost 0 0 0 2 1", 1);
        t.after(row(0, 0, 1, 1)).answers("cost 0 0 0 3 0", 1).answers("cost 0 0 0 3 1", 1);
        t.after(row(0, 0, 0, 0, 0, 3)).answers("cost 0 0 0 5 0", 15).answers("cost 0 0 0 5 1", 2);
        t.says(9, "FRACTIONS are told in lowest terms, above and below (0 by 1)");
        // a half and a half; a half and two thirds; nothing
        t.after(row(0, 1, 9, 8)).answers("best 0 0 2 0", 1).answers("best 0 0 2 1", 1).answers("best 0 0 4 0", 0)
            .answers("best 0 0 4 1", 1);
        t.after(row(0, 1, 9, 9, 8)).answers("best 0 0 2 0", 7).answers("best 0 0 2 1", 6);
        t.after(row(0, 0, 1, 90, 90, 90, 90, 90, 91)).answers("best 0 0 2 0", 3).answers("best 0 0 2 1", 2);
    }

    private static void middleAndOne() {
        t.says(8, "their middle one (of an even number the lesser of both)");
        t.after(row(1, 2, 10, 11)).answers("cost 0 1 0 3 0", 1 + 8 + 9).answers("cost 0 1 0 3 1", 1);
        t.after(row(10, 1)).answers("cost 0 1 0 1 0", 9);
        t.after(row(-1000, 1000)).answers("cost 0 1 0 1 0", 2000);
        t.after(row(4, 4, 9, 9, 9, 4)).answers("cost 0 1 0 5 0", 15);
        t.says(8, "how many are unlike the one that is most often there");
        t.after(row(5, 6, 5, 6)).answers("cost 0 3 0 3 0", 2).answers("cost 0 3 0 2 0", 1).answers("cost 0 3 1 2 0", 1);
        t.after(row(1, 2, 3, 4)).answers("cost 0 3 0 3 0", 3).answers("cost 0 3 0 3 1", 1);
        t.says(8, "the least COST by LEVEL of all VALUES less g times their DAYS");
        // g of 0 and of 1 are alike: a half is between them
        t.after("tell 0 0 0 0", "tell 0 2 1 0").answers("cost 0 2 0 1 0", 1).answers("cost 0 2 0 1 1", 2);
        t.after("tell 0 0 0 0", "tell 0 2 -1 0").answers("cost 0 2 0 1 0", 1).answers("cost 0 2 0 1 1", 2);
        t.after("tell 0 0 0 0", "tell 0 2 39 0").answers("cost 0 2 0 1 0", 1).answers("cost 0 2 0 1 1", 2);
        t.after("tell 0 0 0 0", "tell 0 2 -41 0").answers("cost 0 2 0 1 0", 1).answers("cost 0 2 0 1 1", 2);
    }

    private static void bestCuts() {
        t.says(10, "the least COST, of like ones the least (where the second STRETCH begins compared first, then the third, ..)");
        for (int kind = 0; kind < 4; kind++) {
            t.after(row(5, 5, 5, 5, 5, 5, 5));
            for (int k = 2; k <= 6; k++) {
                for (int i = 0; i < k; i++) t.answers("cut 0 " + kind + " " + k + " " + i, i);
            }
            t.then("least 0 2").answersAll("cut 0 " + kind + " 3", 0, 2, 4);
        }
        // the cuts on 1 and 5 cost as much as those on 2 and 4; a half and a half are exactly 1
        t.after(row(2, 1, 0, 0, 1, 2)).answersAll("cut 0 0 3", 0, 1, 5).answers("best 0 0 3 0", 1).answers("near 0 0 3 0", 2);
        t.after(row(640, 400, 180, 180, 400, 640)).answersAll("cut 0 2 3", 0, 1, 5).answers("best 0 2 3 0", 48400)
            .answers("near 0 2 3 0", 2);
        // 1 and 4, 2 and 3
        t.after(row(0, 1, 3, 1, 0)).answersAll("cut 0 1 3", 0, 1, 4).answers("best 0 1 3 0", 2).answers("near 0 1 3 0", 2);
        t.after(row(0, 0, 3, 0, 2)).answersAll("cut 0 3 3", 0, 1, 4).answers("best 0 3 3 0", 1).answers("near 0 3 3 0", 4);
        // 0 and 8 / 3, 2 / 3 and 2; 9 / 2 and 2, 6 and 1 / 2; 14 and 3 / 4, 59 / 4 and 0
        t.after(row(1, 1, 2, 4, 2)).answers("cut 0 0 2 1", 2).answers("near 0 0 2 0", 2).answers("best 0 0 2 1", 3);
        t.after(row(1, 4, 1, 2, 0, 1)).answers("cut 0 0 2 1", 2).answers("near 0 0 2 0", 2).answers("best 0 0 2 1", 2);
        t.after(row(0, 4, 5, 2, 1, 1, 1)).answers("cut 0 0 2 1", 3).answers("near 0 0 2 0", 2).answers("best 0 0 2 1", 4);
        t.says(10, "The DAY of the POINT at which STRETCH i of BEST CUTS begins");
        t.after("tell 0 3 5 0", "tell 0 9 5 0", "tell 0 27 5 0").answersAll("cut 0 0 2", 3, 9).answersAll("cut 0 0 3", 3, 9, 27);
    }

    private static void priced() {
        t.says(11, "with the least COST of BEST CUTS and prices together, of like ones the least");
        for (int kind = 0; kind < 4; kind++) t.after(row(5, 5, 5, 5, 5, 5)).answers("priced 0 " + kind + " 0", 1);
        t.after(row(0, 10)).answers("priced 0 0 50", 1).answers("priced 0 0 49", 2).answers("priced 0 0 51", 1);
        // 1 and 3 are alike, 2 is dearer
        t.after(row(2, 0, 0, 2)).answers("priced 0 0 2", 1).answers("priced 0 0 1", 3).answers("priced 0 0 3", 1);
        t.after(row(3, 0, 9, 1)).answers("priced 0 1 4", 1).answers("priced 0 1 3", 3);
        // fractions: 9 / 2, 110 / 3, 115 / 2
        t.after(row(3, 1, 10, 9)).answers("priced 0 0 2", 2).answers("priced 0 0 1", 3);
        t.after(row(0, 1, 1, 9, 3)).answers("priced 0 0 18", 2).answers("priced 0 0 17", 3);
        t.after(row(2, 1, 9, 2, 10)).answers("priced 0 0 19", 2).answers("priced 0 0 18", 4);
        // what LEAST lets: 6 POINTS, two of them at the least, are three STRETCHES
        t.after(row(0, 0, 9, 9, 0, 0), "least 0 2").answers("priced 0 0 0", 3).answers("priced 0 0 108", 1)
            .answers("priced 0 0 53", 3);
    }

    private static void near() {
        t.says(12, "have a COST of at most that of the BEST, and a hundredth of it times p (0 to 1000) more");
        t.after(row(5, 5, 5, 5, 5)).answers("near 0 0 2 0", 4).answers("near 0 0 3 0", 6).answers("near 0 0 3 1000", 6);
        t.after(row(0, 2, 6)).answers("near 0 1 2 100", 2).answers("near 0 1 2 99", 1);
        // 8 / 3 and half of it more is 4, twice more is 8
        t.after(row(2, 0, 2, 4)).answers("near 0 0 2 49", 1).answers("near 0 0 2 50", 2).answers("near 0 0 2 199", 2)
            .answers("near 0 0 2 200", 3);
        // 40 / 3 and 11 hundredths more is 74 / 5, 20 more is 16
        t.after(row(2, 1, 5, 1, 0, 3)).answers("near 0 0 2 10", 1).answers("near 0 0 2 11", 2).answers("near 0 0 2 19", 4)
            .answers("near 0 0 2 20", 5);
        // 2 / 3, and 5 / 2, 9 / 2, 5
        t.after(row(5, 2, 4, 4, 5)).answers("near 0 0 3 274", 1).answers("near 0 0 3 275", 2).answers("near 0 0 3 574", 3)
            .answers("near 0 0 3 575", 4).answers("near 0 0 3 649", 5).answers("near 0 0 3 650", 6);
        // a half, and 33 or 34 hundredths of it more: two thirds are between them, in whole hundredths as much as the first
        t.after(row(0, 0, 1, 2)).answers("near 0 0 2 33", 1).answers("near 0 0 2 34", 2);
        // no COST at all: no part of it is more
        t.after(row(0, 0, 9, 9)).answers("near 0 0 2 1000", 1).answers("near 0 0 3 1000", 2);
    }

    private static void commonCuts() {
        t.says(14, "of like ones the least DAYS (the second STRETCH's first compared first)");
        t.after("tell 0 3 5 0", "tell 0 9 5 0").answers("shared 1 1 2 1", 4).answers("shared 1 3 2 1", 4);
        for (int kind = 1; kind <= 3; kind += 2) {
            t.after(row(5, 5, 5, 5, 5, 5), Sentences.tells(1, 0, 0, 6, 6, 6, 6, 6, 6))
                .answersAll("shared 3 " + kind + " 6", 0, 1, 2, 3, 4, 5).answersAll("shared 3 " + kind + " 3", 0, 1, 2);
        }
        // alike on 1 and 4 and on 2 and 3
        t.after(row(0, 3, 9, 2, 3), Sentences.tells(1, 0, 0, 1, 0, 1, 0, 3)).answersAll("shared 3 1 3", 0, 1, 4)
            .answers("common 3 1 3", 8);
        t.after(row(0, 9, 3, 9, 0), Sentences.tells(1, 0, 0, 2, 2, 3, 2, 2)).answersAll("shared 3 3 3", 0, 1, 4)
            .answers("common 3 3 3", 2);
        t.says(13, "each ROW has at least its LEAST of POINTS in each STRETCH");
        t.after(row(1, 1, 1, 1), Sentences.tells(1, 0, 0, 1, 5, 5, 5), "least 0 2").answers("shared 3 3 2 1", 2)
            .answers("common 3 3 2", 1).answers("shared 2 3 2 1", 1).answers("common 2 3 2", 0)
            .answers("least 1 3", 1).answers("common 3 3 2", Sentences.NOT).answers("common 3 3 1", 1)
            .answers("least 1 4", 3).answers("common 3 3 1", 1).answers("least 1 5", 4)
            .answers("common 3 3 1", Sentences.NOT).answers("common 1 3 2", 0);
    }

    private static void doubt() {
        t.says(16, "is as far, or farther, from the sum of all times the share of how many (compared exactly) as the first's is");
        // 1 1 | 0 0: those two, and both others as far below
        t.after(row(0, 0, 1, 1)).answers("doubt 0 2 1", 333333);
        t.after(row(1, 1, 0, 0)).answers("doubt 0 2 1", 333333);
        t.after(row(4, 4, 4)).answers("doubt 0 2 1", 1000000);
        t.after(row(-1000, 1000)).answers("doubt 0 2 1", 1000000);
        // 0 0 | 1: two thirds of 1 off, that is one way of three; the other two are a third off
        t.after(row(0, 0, 1)).answers("doubt 0 2 1", 333333);
        t.after(row(0, 1, 1)).answers("cut 0 0 2 1", 1).answers("doubt 0 2 1", 333333);
        // of 1 | 0 0 0 0 only the one itself is so far; as far in no other way
        t.after(row(1, 0, 0, 0, 0)).answers("doubt 0 2 1", 200000);
        t.says(16, "two STRETCHES of BEST CUTS beside one another (LEVEL)");
        // each KIND cuts these on another DAY; LEVEL on the third
        t.after(row(0, 2, 2, 5, 9)).answers("cut 0 0 2 1", 3).answers("cut 0 1 2 1", 4).answers("cut 0 2 2 1", 2)
            .answers("cut 0 3 2 1", 1).answers("doubt 0 2 1", 100000);
        t.says(16, "in millionths, rounded down");
        t.after(row(0, 0, 0, 0, 0, 9)).answers("doubt 0 2 1", 166666);
        t.after(row(3, 3, 3, 3, 3, 9, 9, 9, 9, 9)).answers("doubt 0 2 1", 2000000 / 252);
        t.after(row(0, 0, 0, 9, 9, 9, 9)).answers("doubt 0 2 1", 1000000 / 35);
    }

    private static void simpler() {
        t.says(17, "the COST of BEST CUTS into k STRETCHES is least, of like ones the least DAYS");
        for (int kind = 0; kind < 4; kind++) {
            t.after("tell 0 7 5 0", "tell 0 9 5 0", "tell 0 20 5 0", "tell 0 39 5 0")
                .answers("simpler 0 " + kind + " 1 1 0", 7).answersAll("simpler 0 " + kind + " 2 2", 7, 9);
        }
        // 1 and 4 as well as 2 and 3; 2 and 5 as well as 3 and 4
        t.after(row(1, 2, 0, 0, 2)).answersAll("simpler 0 0 1 2", 1, 4);
        t.after(row(0, 1, 3, 9, 9, 3)).answersAll("simpler 0 0 2 2", 2, 5);
        t.after(row(2, 1, 3, 3, 1)).answersAll("simpler 0 1 1 2", 1, 4);
        t.after(row(0, 0, 3, 9, 9, 3)).answersAll("simpler 0 1 2 2", 2, 5).answersAll("simpler 0 3 2 2", 2, 5);
        t.after(row(1, 0, 2, 1, 2, 0)).answersAll("simpler 0 2 1 2", 1, 5);
        t.after(row(0, 2, 60, 1, 2, 60)).answersAll("simpler 0 2 2 2", 2, 5);
        // a STRETCH without two of its POINTS costs by how many are left
        t.after(row(0, 9, 3, 9, 5, 1)).answersAll("simpler 0 0 2 2", 0, 2);
        t.after(row(9, 5, 3, 2, 0, 2)).answersAll("simpler 0 0 2 2", 0, 4);
        // without either of both it costs a half
        t.after(row(3, 3, 3, 4, 2)).answers("simpler 0 0 1 1 0", 3);
    }

    private static void together() {
        t.says(18, "the share in which at least so many are so near; in millionths, rounded down");
        // a cut on 4 against one on 6: in all ways at least none is near
        t.after(row(0, 0, 9, 9, 30, 30), Sentences.tells(1, 4, 0, 5, 5, 8, 8)).answers("together 0 1 0 2 1 0", 0)
            .answers("together 0 1 0 2 1 1", 1000000).answers("together 0 1 0 2 2 0", 1)
            .answers("together 0 1 0 2 2 1", 5000000 / 39);
        String pairs = String.join("\n", row(0, 0, 9, 9, 30, 30), Sentences.tells(1, 1, 0, 5, 5, 8, 8, 30, 30));
        // cuts on 2 and 4 against 3 and 5: both near by 1; near are the DAYS 2 to 6, 5 * 4 of 39 * 38 ways
        t.after(pairs).answers("together 0 1 0 3 1 0", 2).answers("together 0 1 0 3 1 1", 20000000 / 1482)
            .answers("together 0 1 0 3 0 0", 0).answers("together 0 1 0 3 0 1", 1000000);
        // cuts on 2 and 4 against 4 and 20: one is near by 1; near are 3 to 5 and 19 to 21, so 1482 less 33 * 32 ways
        t.after(row(0, 0, 9, 9, 30, 30), "tell 1 3 5 0", "tell 1 4 500 0", "tell 1 20 900 0").answers("together 0 1 0 3 1 0", 1)
            .answers("together 0 1 0 3 1 1", (1482 - 33 * 32) * 1000000L / 1482);
        t.says(18, "no more than r DAYS (0 to 9) from one of the second's");
        // a cut between two of the others, as far from both, counts once
        t.after("tell 0 0 5 0", "tell 0 5 90 0", "tell 0 20 300 0", "tell 1 0 5 0", "tell 1 3 90 0", "tell 1 7 300 0")
            .answers("together 0 1 0 3 2 0", 1).answers("together 0 1 0 3 1 0", 0).answers("together 1 0 0 3 2 0", 2);
    }

    private static void alarms() {
        t.says(19, "an ALARM on the DAY by which it comes to LIMIT or more: SUM is 0 then");
        t.after(row(5, 5, 5, 5)).answers("alarm 0 0 0 10 0 -1", 2).answers("alarm 0 0 0 10 0 1", 1)
            .answers("alarm 0 0 0 10 0 2", 0).answers("alarm 0 0 0 11 0 -1", 1).answers("alarm 0 0 0 11 0 2", 1)
            .answers("alarm 0 0 0 9 0 -1", 2).answers("alarm 0 0 0 5 0 -1", 4).answers("alarm 0 0 0 6 0 -1", 2)
            .answers("alarm 0 0 0 20 0 3", 1).answers("alarm 0 0 0 21 0 -1", 0);
        t.says(19, "less SLACK, 0 at least");
        t.after(row(-9, 5, -4, 4, 1)).answers("alarm 0 0 0 6 0 -1", 1).answers("alarm 0 0 0 6 0 4", 1)
            .answers("alarm 0 0 0 7 0 -1", 0).answers("alarm 0 0 0 5 0 -1", 2).answers("alarm 0 0 0 5 0 4", 1);
        t.after(row(-1, 5)).answers("alarm 0 0 0 5 0 1", 1).answers("alarm 0 0 5 1 0 -1", 0).answers("alarm 0 0 4 1 0 1", 1);
        t.says(19, "DAY by DAY (GAPS aside)");
        t.after("tell 0 0 5 0", "tell 0 1 -9999 0", "tell 0 39 5 0").answers("alarm 0 0 0 10 0 -1", 1)
            .answers("alarm 0 0 0 10 0 39", 1).answers("alarm 0 0 0 10 0 1", 0).answers("alarm 0 -1 0 12 0 39", 1)
            .answers("alarm 0 -1 0 13 0 -1", 0);
        t.says(20, "how many DAYS from it to the first ALARM on it or later; NONE");
        t.after(row(5, 5, 5, 5)).answers("soon 0 0 0 10 0 0 0", 1).answers("soon 0 0 0 10 0 1 0", 0)
            .answers("soon 0 0 0 10 0 2 0", 1).answers("soon 0 0 0 10 0 3 0", 0).answers("soon 0 0 0 10 0 4 0", NONE)
            .answers("soon 0 0 0 10 0 39 0", NONE);
        t.after("tell 0 39 5 0").answers("soon 0 0 0 5 0 0 0", 39).answers("soon 0 0 0 5 0 39 0", 0)
            .answers("soon 0 0 0 6 0 0 0", NONE);
        t.says(20, "FOR NOTHING are ALARMS on DAYS before a DAY");
        t.after(row(5, 5, 5, 5)).answers("soon 0 0 0 10 0 0 1", 0).answers("soon 0 0 0 10 0 1 1", 0)
            .answers("soon 0 0 0 10 0 2 1", 1).answers("soon 0 0 0 10 0 3 1", 1).answers("soon 0 0 0 10 0 4 1", 2)
            .answers("soon 0 0 0 10 0 39 1", 2);
        t.after("tell 0 39 5 0").answers("soon 0 0 0 5 0 39 1", 0);
    }

    private static void bestLimit() {
        t.says(21, "the least by which there is an ALARM on a DAY or later (till 39), and none before it; NONE");
        // the SUM before is 5, later 10: 6 is the least that lets the first by
        t.after(row(5, 5)).answers("limit 0 0 0 0 0", 1).answers("limit 0 0 0 0 1", 6).answers("limit 0 0 0 0 2", NONE);
        // later it comes to as much as before, and no more
        t.after(row(5, -5, 5)).answers("limit 0 0 0 0 1", NONE).answers("limit 0 0 0 0 2", NONE);
        t.after(row(5, -5, 6)).answers("limit 0 0 0 0 1", 6).answers("limit 0 0 0 0 2", 6);
        t.after(row(-5, 5, 4)).answers("limit 0 0 0 1 0", 1).answers("limit 0 0 0 1 1", NONE)
            .answers("limit 0 5 0 1 1", 11).answers("limit 0 6 0 1 1", 12);
        t.after(row(9, -9, 3)).answers("limit 0 0 0 0 2", NONE);
    }

    private static void worst() {
        t.says(25, "the DAY that is off most, of like ones the first; NONE, if none is");
        t.after(row(8, 5, 2), Sentences.types("0=5")).answers("missed 0 1", 0).answers("missed 0 0", 6);
        t.after(row(5, 2, 8), Sentences.types("0=5")).answers("missed 0 1", 1);
        t.after(row(6, 2, 8), Sentences.types("0=5")).answers("missed 0 1", 1);
        t.after(row(6, 2, 9), Sentences.types("0=5")).answers("missed 0 1", 2);
        t.after(row(5, 5), Sentences.types("0=5")).answers("missed 0 1", NONE).answers("missed 0 0", 0);
        t.after(row(2, 8), Sentences.types("0~5,3")).answers("missed 0 1", NONE).answers("missed 0 0", 0);
        t.after(row(2, 8, 9, 1), Sentences.types("0~5,3")).answers("missed 0 1", 2).answers("missed 0 0", 2);
        t.after(row(9, 0), Sentences.types("0~5,3;1=1")).answers("missed 0 1", 0).answers("missed 0 0", 2);
    }

    /** All ROWS of five POINTS of three VALUES, where like ones are many, against PlainBreaks, which tries all in their order. */
    private static void allSmallRows() {
        t.says(10, "of like ones the least (where the second STRETCH begins compared first, then the third, ..)");
        for (int n = 0; n < 243; n++) {
            t.after(small(n));
            for (int kind = 0; kind < 4; kind++) {
                t.takes("cut 0 " + kind + " 2 1", Sentences.NOT);
                t.takes("cut 0 " + kind + " 3 1", Sentences.NOT);
                t.takes("cut 0 " + kind + " 3 2", Sentences.NOT);
            }
        }
        t.says(17, "the q POINTS (1, 2) without which the COST of BEST CUTS into k STRETCHES is least, of like ones the least DAYS");
        for (int n = 0; n < 243; n++) {
            t.after(small(n));
            for (int kind = 0; kind < 4; kind++) {
                for (int k = 1; k <= 2; k++) {
                    t.takes("simpler 0 " + kind + " " + k + " 1 0", Sentences.NOT);
                    t.takes("simpler 0 " + kind + " " + k + " 2 0", Sentences.NOT);
                    t.takes("simpler 0 " + kind + " " + k + " 2 1", Sentences.NOT);
                }
            }
        }
    }

    private static String small(int number) {
        int[] values = new int[5];
        int left = number;
        for (int n = 0; n < 5; n++) {
            values[n] = new int[] {0, 1, 3}[left % 3];
            left /= 3;
        }
        return row(values);
    }
}
