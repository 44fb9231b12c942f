import java.util.ArrayList;
import java.util.List;

/** Late and corrected: AS OF an earlier TIME, a VALUE told again, a VALUE told as none, SINCE over such changes. */
public final class LateTest {
    private static final int NOT = Sentences.NOT, GAP = Sentences.GAP;
    private static Sentences t;

    public static void main(String[] args) throws Exception {
        t = new Sentences(args);
        toldAgain();
        toldWhileEarlier();
        asItWasKnown();
        since();
        sinceCorrected();
        sinceNow();
        t.end();
    }

    private static void toldAgain() {
        t.says(6, "a ROW has on a DAY what was told last of it up to then; a GAP, where nothing was, or NONE");
        String calls = "tell 0 5 1 10\ntell 0 5 2 20\ntell 0 5 -9999 30\ntell 0 5 4 40";
        int[] times = {0, 9, 10, 19, 20, 29, 30, 39, 40, 41, 998, 999};
        int[] values = {GAP, GAP, 1, 1, 2, 2, GAP, GAP, 4, 4, 4, 4};
        t.after(calls);
        for (int n = 0; n < times.length; n++) {
            t.then("asOf " + times[n]).answers("value 0 5", values[n]).answers("many 0", values[n] == GAP ? 0 : 1)
                .answers("count 0", values[n] == GAP ? 0 : 1).answers("value 0 4", GAP).answers("value 1 5", GAP);
        }
        t.after("tell 0 5 1 10", "tell 0 5 2 10").answers("value 0 5", 2).then("asOf 10").answers("value 0 5", 2)
            .then("asOf 9").answers("value 0 5", GAP);
        t.after("tell 0 5 1 10", "tell 0 5 -9999 10").answers("value 0 5", GAP).then("tell 0 5 3 10").answers("value 0 5", 3);
        t.after("tell 0 5 1 0").then("asOf 0").answers("value 0 5", 1);
        t.after("tell 0 5 1 999").answers("value 0 5", 1).then("asOf 998").answers("value 0 5", GAP);
        t.says(7, "N of a ROW: how many DAYS have VALUES");
        t.after("tell 0 5 1 10", "tell 0 5 2 10", "tell 0 5 2 20", "tell 0 6 2 20").answers("many 0", 2)
            .then("tell 0 5 -9999 30").answers("many 0", 1).then("tell 0 7 -9999 30").answers("many 0", 1)
            .then("tell 0 5 0 30").answers("many 0", 2);
        t.says(32, "4 how many VALUES were told, 5 AS OF, 6 the TIME that was told last");
        t.after("tell 0 5 1 10", "tell 0 5 2 20", "asOf 5").answers("count 4", 2).answers("count 5", 5).answers("count 6", 20)
            .answers("count 0", 0);
        t.says(2, "not less than the one told before, of any");
        // AS OF an earlier TIME no earlier TIME may be told
        t.after("tell 0 5 1 10", "tell 1 5 2 20", "asOf 10").refuses("tell 0 6 1 19", Sentences.BAD).answers("tell 0 6 1 20", 3);
    }

    private static void toldWhileEarlier() {
        t.says(4, "AS OF a TIME: what it was");
        t.after("tell 0 5 1 10", "asOf 15").answers("tell 0 5 2 16", 2).answers("value 0 5", 1).answers("tell 0 6 2 16", 3)
            .answers("value 0 6", GAP).answers("many 0", 1).answers("asOf 16", 15).answers("value 0 5", 2).answers("many 0", 2)
            .answers("asOf 999", 16).answers("value 0 5", 2);
        t.after("asOf 15").answers("tell 0 5 1 15", 1).answers("value 0 5", 1).answers("tell 0 5 2 15", 2).answers("value 0 5", 2)
            .answers("tell 0 5 3 16", 3).answers("value 0 5", 2);
        t.says(3, "VALUES of a SHEET for DAYS from one on are told at a TIME");
        t.after(Sentences.sheet(0, 2, 7, -9999, 9), "tell 1 3 5 10", "asOf 15").answers("read 0 1 2 20", 3).answers("value 1 2", GAP)
            .answers("value 1 3", 5).answers("many 1", 1).answers("asOf 20", 15).answersAll("value 1", GAP, GAP, 7, GAP, 9)
            .answers("many 1", 2).answers("asOf 19", 20).answers("value 1 3", 5).answers("count 6", 20);
    }

    /** For each call that depends on what ROWS have: the promise, and the call with some numbers. */
    private static final String[] QUESTIONS = {"6 value 0 0", "6 value 0 3", "6 value 1 2", "7 many 0", "7 many 1", "8 cost 0 0 0 2 0",
        "8 cost 0 2 1 3 1", "9 best 0 0 2 0", "9 best 0 2 2 1", "9 best 1 1 3 0", "10 cut 0 0 2 1", "10 cut 0 1 3 2", "10 cut 1 3 2 1",
        "11 priced 0 0 3", "11 priced 1 3 0", "12 near 0 0 2 60", "12 near 1 1 3 10", "13 common 3 1 2", "13 common 1 3 3",
        "14 shared 3 3 2 1", "14 shared 2 1 3 2", "16 doubt 0 2 1", "16 doubt 1 3 2", "17 simpler 0 0 2 1 0", "17 simpler 1 1 1 2 1",
        "18 together 0 1 0 2 2 0", "18 together 1 0 0 3 1 1", "19 alarm 0 3 0 5 0 -1", "19 alarm 1 5 1 3 1 4", "20 soon 0 3 0 5 0 0 0",
        "20 soon 1 2 0 4 0 4 1", "21 limit 0 1 0 0 3", "25 missed 0 0", "25 missed 1 1", "31 write 0 0", "32 count 0", "32 count 1"};

    private static void asItWasKnown() {
        List<String> told = new ArrayList<>();
        int[] values = {0, 1, 9, 8, 9, 2, 3, -9999, 20, 21, 0, 5};
        for (int n = 0; n < 60; n++) {
            told.add("tell " + n % 3 % 2 + " " + n * 5 % 8 + " " + values[n * 7 % 12] + " " + n / 4 * 10);
        }
        String other = Sentences.types("1=4;3~8,2") + "\nsheet 0 2 5\n";
        for (String question : QUESTIONS) {
            int blank = question.indexOf(' ');
            t.says(Integer.parseInt(question.substring(0, blank)), "a ROW has on a DAY what was told last of it up to then");
            for (int time = 0; time <= 150; time += 5) {
                // as if nothing had been told later
                List<String> upToThen = new ArrayList<>(List.of(other));
                for (String call : told) {
                    if (Integer.parseInt(call.substring(call.lastIndexOf(' ') + 1)) <= time) upToThen.add(call);
                }
                long due = Sentences.ask(Sentences.made(upToThen), question.substring(blank + 1));
                t.after(other, String.join("\n", told), "asOf " + time).answers(question.substring(blank + 1), due);
            }
        }
    }

    private static void since() {
        t.says(15, "the least TIME as of which, and as of all later ones up to that AS OF which it is");
        // 0 0 | 9 9, one DAY after another
        String calls = "tell 0 0 0 10\ntell 0 1 0 20\ntell 0 2 9 30\ntell 0 3 9 40";
        for (int kind = 0; kind < 4; kind++) t.after(calls).answers("since 0 " + kind + " 1", 10);
        t.after(calls).answers("since 0 0 2", 30).answers("since 0 1 2", 30).answers("since 0 3 2", 30).answers("since 0 0 3", 30)
            .answers("since 0 0 4", 40).answers("since 0 0 5", NOT);
        t.after(calls, "asOf 39").answers("since 0 0 2", 30).answers("since 0 0 4", NOT);
        t.after(calls, "asOf 30").answers("since 0 0 2", 30);
        t.after(calls, "asOf 29").answers("since 0 0 2", 20).answers("since 0 0 1", 10);
        t.after(calls, "asOf 20").answers("since 0 0 2", 20);
        t.after(calls, "asOf 19").answers("since 0 0 2", NOT).answers("since 0 0 1", 10);
        t.after(calls, "asOf 10").answers("since 0 0 1", 10);
        t.after(calls, "asOf 9").answers("since 0 0 1", NOT);
        t.says(15, "the least TIME");
        // one TIME behind another
        t.after(Sentences.tells(0, 0, 10, 0, 0, 9, 9), "tell 0 1 9 11", "tell 0 1 0 12", "tell 0 3 8 13").answers("since 0 0 2", 12)
            .then("asOf 12").answers("since 0 0 2", 12).then("asOf 11").answers("since 0 0 2", 11).then("asOf 10").answers("since 0 0 2", 10);
        t.after("tell 0 0 0 0", "tell 0 1 9 0").answers("since 0 0 2", 0).then("asOf 0").answers("since 0 0 2", 0);
        t.after("tell 0 0 0 999", "tell 0 1 9 999").answers("since 0 0 2", 999);
        t.after("tell 1 7 3 5", calls, "tell 1 8 3 50", "tell 3 1 1 60").answers("since 0 0 2", 30).answers("since 1 0 1", 5);
    }

    private static void sinceCorrected() {
        t.says(15, "the DAYS at which STRETCHES of BEST CUTS begin are the same as they are now");
        String four = Sentences.tells(0, 0, 10, 0, 0, 9, 9);
        // corrected, and the cut stays; corrected, and it moves; moved and back
        t.after(four, "tell 0 1 1 20").answers("since 0 0 2", 10);
        t.after(four, "tell 0 1 9 20").answers("cut 0 0 2 1", 1).answers("since 0 0 2", 20);
        t.after(four, "tell 0 1 9 20", "tell 0 1 0 30").answers("cut 0 0 2 1", 2).answers("since 0 0 2", 30)
            .then("asOf 29").answers("since 0 0 2", 20).then("asOf 19").answers("since 0 0 2", 10);
        // moved and back at one TIME is no change as of it
        t.after(four, "tell 0 1 9 20", "tell 0 1 0 20").answers("since 0 0 2", 10);
        // told as none: the cut's own DAY, another one, the first one; and told again
        t.after(four, "tell 0 2 -9999 20").answers("cut 0 0 2 1", 3).answers("since 0 0 2", 20);
        t.after(four, "tell 0 3 -9999 20").answers("cut 0 0 2 1", 2).answers("since 0 0 2", 10);
        t.after(four, "tell 0 0 -9999 20").answers("cut 0 0 2 0", 1).answers("cut 0 0 2 1", 2).answers("since 0 0 2", 20)
            .answers("since 0 0 1", 20);
        t.after(four, "tell 0 2 -9999 20", "tell 0 2 9 30").answers("since 0 0 2", 30).answers("since 0 0 1", 10);
        t.after(four, "tell 0 5 -9999 20").answers("since 0 0 2", 10);
        t.after(four, "tell 0 1 0 20").answers("since 0 0 2", 10);
        // all told as none, and again
        t.after(four, "tell 0 0 -9999 20\ntell 0 1 -9999 20\ntell 0 2 -9999 20\ntell 0 3 -9999 20").answers("since 0 0 1", NOT)
            .then(Sentences.tells(0, 0, 30, 0, 0, 9, 9)).answers("since 0 0 2", 30).answers("since 0 0 1", 30);
        // told late: another POINT ahead of the cut moves no DAY, one ahead of all moves the first
        t.after("tell 0 1 0 10", "tell 0 3 0 10", "tell 0 6 9 10", "tell 0 7 9 10", "tell 0 2 0 20").answers("cut 0 0 2 1", 6)
            .answers("since 0 0 2", 10).then("tell 0 0 0 30").answers("cut 0 0 2 1", 6).answers("since 0 0 2", 30);
        // the same POINT by number, but another DAY
        t.after("tell 0 0 0 10", "tell 0 5 9 10", "tell 0 5 -9999 20", "tell 0 6 9 20").answers("cut 0 0 2 1", 6)
            .answers("since 0 0 2", 20);
    }

    private static void sinceNow() {
        t.says(15, "up to that AS OF which it is");
        // as of 10 and 30 alike, as of 20 not
        String calls = Sentences.tells(0, 0, 10, 0, 0, 9, 9) + "\ntell 0 1 9 20\ntell 0 1 0 30\ntell 0 3 8 40";
        t.after(calls).answers("since 0 0 2", 30).then("asOf 35").answers("since 0 0 2", 30).then("asOf 30").answers("since 0 0 2", 30)
            .then("asOf 25").answers("since 0 0 2", 20).then("asOf 20").answers("since 0 0 2", 20)
            .then("asOf 15").answers("since 0 0 2", 10);
        t.says(15, "NOT: there are no BEST CUTS now");
        t.after(calls, "tell 0 3 -9999 50").answers("since 0 0 4", NOT).then("asOf 49").answers("since 0 0 4", 10);
        t.says(15, "LEAST (told by ROWS, 1 to 10; 1 at first)");
        // LEAST holds for all TIMES alike: with two at the least there were no CUTS before 40
        String one = "tell 0 0 0 10\ntell 0 1 0 20\ntell 0 2 9 30\ntell 0 3 9 40";
        t.after(one, "least 0 2").answers("since 0 0 2", 40).answers("since 0 0 1", 20).then("least 0 1").answers("since 0 0 2", 30);
    }
}
