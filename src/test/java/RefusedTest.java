/** Refused calls: for each call the answer of each refusal, which of two that both fit comes first, and that nothing has changed. */
public final class RefusedTest {
    private static final int BAD = Sentences.BAD, NOT = Sentences.NOT, FULL = Sentences.FULL;
    private static final int NULL = Sentences.NULL, INDEX = Sentences.INDEX, CAST = Sentences.CAST;
    private static final int STORE = Sentences.STORE, SIZE = Sentences.SIZE, LOW = Sentences.LOW, HIGH = Sentences.HIGH;
    private static final long LONG_BAD = Sentences.LONG_BAD, LONG_NOT = Sentences.LONG_NOT;
    private static final String FIRST = "Refusals, the first that fits, in the order told at each act";
    private static Sentences t;

    public static void main(String[] args) throws Exception {
        t = new Sentences(args);
        numbers();
        rows();
        badAlone();
        badAheadOfNot();
        doubt();
        text();
        sheet();
        putAndGet();
        copy();
        readAndWrite();
        findings();
        t.end();
    }

    private static Sentences known(String... more) {
        return t.after(Sentences.known()).then(more);
    }

    private static void numbers() {
        t.says(9, "Where the answer is a long, a refusal -x is the least long and x more");
        known().refuses("best 4 0 2 0", Long.MIN_VALUE + 2);
        t.after().refuses("best 0 0 2 0", Long.MIN_VALUE + 3).refuses("best 0 0 2 1", Long.MIN_VALUE + 3);
        t.says(8, "BAD: also a above b. (As the least long.)");
        known().refuses("cost 0 0 3 2 0", Long.MIN_VALUE + 2).refuses("cost 0 0 3 2 1", Long.MIN_VALUE + 2);
        t.says(6, "BAD: -10000");
        known().refuses("value 4 0", -10000).refuses("value 0 40", -10000).refuses("value -1 -1", -10000);
        t.says(29, "BAD: the least int; so are NULL, CAST, INDEX (count() 8 tells)");
        known("lose 2").refuses("get 4 0 0", Integer.MIN_VALUE, 0).refuses("get 0 3 0", Integer.MIN_VALUE, 0)
            .refuses("get 2 2 0", Integer.MIN_VALUE, 1).refuses("get 0 1 0", Integer.MIN_VALUE, 3)
            .refuses("get 0 0 5", Integer.MIN_VALUE, 2);
        // an item may be the least int as well: then nothing is found
        t.after(Sentences.sheet(0, 2, LOW)).answers("get 0 2 0", LOW).answers("count 8", 0);
        t.says(29, "FINDINGS (answers -10 less the number; they change nothing but count() 8)");
        known("lose 2").refuses("lose 2", -11).refuses("put 0 0 9 9", -12).refuses("put 0 1 0 9", -13)
            .refuses("copy 0 0 1 0 0", -14).refuses("sheet 0 0 -9", -15);
    }

    private static void rows() {
        t.says(2, FIRST);
        // FULL and BAD both fit
        for (String call : new String[] {"tell 4 5 7 20", "tell -1 5 7 20", "tell 0 40 7 20", "tell 0 -1 7 20", "tell 0 5 1001 20",
            "tell 0 5 -1001 20", "tell 0 5 -9998 20", "tell 0 5 7 19", "tell 0 5 7 1000", "tell 0 5 7 -1"}) {
            t.after(Sentences.toldFull()).refuses(call, BAD);
            known().refuses(call, BAD);
        }
        t.after(Sentences.toldFull()).refuses("tell 0 5 7 20", FULL).refuses("tell 3 39 -9999 999", FULL);
        t.says(3, FIRST);
        // NULL and BAD both fit
        for (String call : new String[] {"read 3 4 5 20", "read 3 -1 5 20", "read 3 0 40 20", "read 3 0 -1 20", "read 3 0 5 19",
            "read 3 0 5 1000", "read 4 0 5 20", "read -1 0 5 20"}) {
            known("lose 3").refuses(call, BAD);
            known().refuses(call, BAD);
        }
        known("lose 3").refuses("read 3 0 5 20", NULL);
        t.after(Sentences.toldFull()).refuses("read 3 0 5 20", NULL);
    }

    private static void badAlone() {
        t.says(4, "AS OF a TIME: what it was. BAD");
        known("asOf 15").refuses("asOf -1", BAD).refuses("asOf 1000", BAD).answers("count 5", 15).answers("asOf 15", 15);
        t.says(5, "LEAST of a ROW: what it was. BAD");
        known().refuses("least 3 0", BAD).refuses("least 3 11", BAD).refuses("least 4 1", BAD).refuses("least -1 11", BAD)
            .answers("least 3 2", 2);
        t.says(7, "N. BAD");
        known().refuses("many 4", BAD).refuses("many -1", BAD);
        t.says(8, "They change nothing");
        known().refuses("cost 4 0 0 0 0", LONG_BAD).refuses("cost 0 4 0 0 0", LONG_BAD).refuses("cost 0 0 -1 0 0", LONG_BAD)
            .refuses("cost 0 0 0 12 0", LONG_BAD).refuses("cost 0 0 0 0 2", LONG_BAD);
        t.says(19, "They change nothing");
        known().refuses("alarm 4 0 0 1 0 0", BAD).refuses("alarm 0 1001 0 1 0 0", BAD).refuses("alarm 0 0 1001 1 0 0", BAD)
            .refuses("alarm 0 0 0 0 0 0", BAD).refuses("alarm 0 0 0 1 2 0", BAD).refuses("alarm 0 0 0 1 0 40", BAD);
        t.says(20, "They change nothing");
        known().refuses("soon 4 0 0 1 0 0 0", BAD).refuses("soon 0 1001 0 1 0 0 0", BAD).refuses("soon 0 0 1001 1 0 0 0", BAD)
            .refuses("soon 0 0 0 0 0 0 0", BAD).refuses("soon 0 0 0 1 2 0 0", BAD).refuses("soon 0 0 0 1 0 -1 0", BAD)
            .refuses("soon 0 0 0 1 0 0 2", BAD);
        t.says(21, "They change nothing");
        known().refuses("limit 4 0 0 0 0", BAD).refuses("limit 0 1001 0 0 0", BAD).refuses("limit 0 0 1001 0 0", BAD)
            .refuses("limit 0 0 0 2 0", BAD).refuses("limit 0 0 0 0 -1", BAD);
        t.says(32, "They change nothing");
        known().refuses("count 9", BAD).refuses("count -1", BAD).answers("count 8", 5);
    }

    /** NOT fits each first call, and BAD too all others: of a ROW without POINTS and of one with few. */
    private static void notOrBad(long not, long bad, String notCall, String... badCalls) {
        t.after("asOf 0").refuses(notCall, not);
        for (String call : badCalls) {
            t.after("asOf 0").refuses(call, bad);
            t.after("least 0 10", "least 1 10", Sentences.tells(0, 0, 0, 4, 5, 6, 7), Sentences.tells(1, 0, 0, 4, 5, 6, 7)).refuses(notCall, not)
                .refuses(call, bad);
        }
    }

    private static void badAheadOfNot() {
        t.says(9, FIRST);
        notOrBad(LONG_NOT, LONG_BAD, "best 0 0 2 0", "best 4 0 2 0", "best 0 4 2 0", "best 0 -1 2 0", "best 0 0 7 0", "best 0 0 0 0", "best 0 0 2 2", "best 0 0 2 -1");
        t.says(10, FIRST);
        notOrBad(NOT, BAD, "cut 0 0 2 0", "cut 4 0 2 0", "cut 0 4 2 0", "cut 0 0 7 0", "cut 0 0 0 0", "cut 0 0 2 2", "cut 0 0 2 -1");
        t.says(11, FIRST);
        notOrBad(NOT, BAD, "priced 0 0 0", "priced 4 0 0", "priced 0 4 0", "priced 0 0 -1", "priced 0 0 1000001");
        t.says(12, FIRST);
        notOrBad(NOT, BAD, "near 0 0 2 0", "near 4 0 2 0", "near 0 4 2 0", "near 0 0 1 0", "near 0 0 4 0", "near 0 0 2 -1", "near 0 0 2 1001");
        t.says(13, FIRST);
        notOrBad(NOT, BAD, "common 3 1 2", "common 0 1 2", "common 16 1 2", "common 3 2 2", "common 3 0 2", "common 3 1 0", "common 3 1 7");
        t.says(14, FIRST);
        notOrBad(NOT, BAD, "shared 3 1 2 0", "shared 0 1 2 0", "shared 16 1 2 0", "shared 3 2 2 0", "shared 3 1 7 0", "shared 3 1 2 2",
            "shared 3 1 2 -1");
        t.says(15, FIRST);
        notOrBad(NOT, BAD, "since 0 0 2", "since 4 0 2", "since 0 4 2", "since 0 0 0", "since 0 0 7");
        t.says(16, FIRST);
        notOrBad(NOT, BAD, "doubt 0 2 1", "doubt 4 2 1", "doubt 0 7 1", "doubt 0 1 1", "doubt 0 2 0", "doubt 0 2 2");
        t.says(17, FIRST);
        notOrBad(NOT, BAD, "simpler 0 0 2 1 0", "simpler 4 0 2 1 0", "simpler 0 4 2 1 0", "simpler 0 0 7 1 0", "simpler 0 0 0 1 0",
            "simpler 0 0 2 3 0", "simpler 0 0 2 0 0", "simpler 0 0 2 1 1", "simpler 0 0 2 2 2", "simpler 0 0 2 1 -1");
        t.says(18, FIRST);
        notOrBad(NOT, BAD, "together 0 1 0 2 0 0", "together 4 1 0 2 0 0", "together 0 4 0 2 0 0", "together 0 0 0 2 0 0",
            "together 0 1 4 2 0 0", "together 0 1 0 1 0 0", "together 0 1 0 7 0 0", "together 0 1 0 2 10 0", "together 0 1 0 2 -1 0",
            "together 0 1 0 2 0 2");
    }

    private static void doubt() {
        StringBuilder many = new StringBuilder();
        for (int day = 0; day < 40; day++) many.append("tell 0 " + day + " " + day / 20 + " 0\n");
        t.says(16, "BAD; NOT; FULL");
        t.after(many.toString()).refuses("doubt 0 2 1", FULL);
        for (String call : new String[] {"doubt 4 2 1", "doubt -1 2 1", "doubt 0 7 1", "doubt 0 2 0", "doubt 0 2 2", "doubt 0 0 1"}) {
            t.after(many.toString()).refuses(call, BAD);
        }
        // more than 16 POINTS in any two STRETCHES, but there are none
        t.after(many.toString(), "least 0 10").refuses("doubt 0 5 1", NOT).refuses("doubt 0 4 1", FULL);
    }

    private static void text() {
        t.says(22, FIRST);
        StringBuilder full = new StringBuilder();
        for (int n = 0; n < 100; n++) full.append("type 49\n");
        t.after(full.toString()).refuses("type 256", BAD).refuses("type -1", BAD).refuses("type " + LOW, BAD).refuses("type 255", FULL);
        known().refuses("type 256", BAD).refuses("type -1", BAD).answers("fault", -1);
        t.says(25, FIRST);
        t.after("tell 0 0 5 0").refuses("missed 4 0", BAD).refuses("missed 0 2", BAD).refuses("missed -1 -1", BAD)
            .refuses("missed 0 0", NOT).refuses("missed 0 1", NOT);
        known("type 59").refuses("missed 0 0", NOT).refuses("missed 0 2", BAD).refuses("missed 4 0", BAD);
    }

    private static void sheet() {
        t.says(26, "BAD: SHEET, TYPE, above 60; SIZE");
        known().refuses("sheet 4 0 -1", BAD).refuses("sheet -1 0 -1", BAD).refuses("sheet 0 3 -1", BAD).refuses("sheet 0 -1 -1", BAD)
            .refuses("sheet 0 0 61", BAD).refuses("sheet 4 3 61", BAD).refuses("sheet 0 0 -1", SIZE).refuses("sheet 3 2 " + LOW, SIZE)
            .answers("get 0 0 4", 5).answers("lose 0", 5);
        // a SHEET that is LOST stays so
        t.after().refuses("sheet 0 0 -1", SIZE).refuses("lose 0", NULL).refuses("sheet 0 0 61", BAD).refuses("lose 0", NULL);
        t.says(27, "It is LOST: how many items it had. BAD; NULL");
        known().refuses("lose 4", BAD).refuses("lose -1", BAD).answers("lose 0", 5).refuses("lose 0", NULL).answers("lose 1", 4);
    }

    private static void putAndGet() {
        t.says(28, "BAD; NULL; CAST; INDEX");
        String lost = "lose 3";
        // BAD with NULL, with CAST (no TYPE at all), with INDEX
        for (String place : new String[] {"4 0 0", "-1 0 0", "3 3 0", "3 -1 9", "0 3 0", "0 -1 9", "4 3 9", "0 3 -1"}) {
            known(lost).refuses("put " + place + " 77", BAD);
        }
        // NULL with CAST and INDEX; it was of bytes before
        for (String place : new String[] {"3 0 0", "3 1 0", "3 2 0", "3 0 -1", "3 1 60", "3 2 " + HIGH}) {
            known(lost).refuses("put " + place + " 77", NULL);
        }
        // CAST with INDEX
        for (String place : new String[] {"0 1 0", "0 2 4", "0 1 5", "0 2 -1", "1 0 0", "1 2 9", "2 0 " + LOW, "2 1 0"}) {
            known(lost).refuses("put " + place + " 77", CAST);
        }
        for (String place : new String[] {"0 0 5", "0 0 -1", "1 1 4", "2 2 3", "2 2 " + HIGH, "1 1 " + LOW}) {
            known(lost).refuses("put " + place + " 77", INDEX);
        }
        t.says(29, "BAD: the least int; so are NULL, CAST, INDEX (count() 8 tells)");
        for (String place : new String[] {"4 0 0", "-1 0 0", "3 3 0", "3 -1 9", "0 3 0", "0 -1 9", "4 3 9", "0 3 -1"}) {
            known(lost).refuses("get " + place, LOW, 0);
        }
        for (String place : new String[] {"3 0 0", "3 1 0", "3 2 0", "3 0 -1", "3 1 60", "3 2 " + HIGH}) {
            known(lost).refuses("get " + place, LOW, 1);
        }
        for (String place : new String[] {"0 1 0", "0 2 4", "0 1 5", "0 2 -1", "1 0 0", "1 2 9", "2 0 " + LOW, "2 1 0"}) {
            known(lost).refuses("get " + place, LOW, 3);
        }
        for (String place : new String[] {"0 0 5", "0 0 -1", "1 1 4", "2 2 3", "2 2 " + HIGH, "1 1 " + LOW}) {
            known(lost).refuses("get " + place, LOW, 2);
        }
    }

    private static void copy() {
        t.says(30, "BAD: the SHEETS; NULL: s, t; STORE; INDEX: below 0, not so many");
        String lost = "lose 3";
        for (String call : new String[] {"copy 4 0 0 0 1", "copy 0 0 4 0 1", "copy -1 0 0 0 1", "copy 0 0 -1 0 1", "copy 4 0 3 0 1",
            "copy 3 0 4 0 1", "copy 4 -1 0 0 1", "copy 1 0 4 0 -1", "copy 4 0 4 0 0"}) {
            known(lost).refuses(call, BAD);
        }
        // NULL with STORE (the other is of shorts, it was of bytes) and INDEX
        for (String call : new String[] {"copy 3 0 0 0 1", "copy 0 0 3 0 1", "copy 3 0 1 0 1", "copy 1 0 3 0 1", "copy 3 -1 0 0 1",
            "copy 0 0 3 0 99", "copy 3 0 3 0 0", "copy 3 0 3 0 -1"}) {
            known(lost).refuses(call, NULL);
        }
        // STORE with INDEX
        for (String call : new String[] {"copy 0 0 1 0 1", "copy 1 0 0 0 0", "copy 2 0 0 0 1", "copy 0 -1 2 0 1", "copy 0 0 2 -1 1",
            "copy 0 0 2 0 -1", "copy 1 0 2 0 99", "copy 2 " + HIGH + " 1 0 " + HIGH}) {
            known(lost).refuses(call, STORE);
        }
        for (String call : new String[] {"copy 0 -1 3 0 1", "copy 0 0 3 -1 1", "copy 0 0 3 0 -1", "copy 0 3 3 0 3", "copy 0 0 3 1 3",
            "copy 0 0 3 0 4", "copy 3 0 0 0 4", "copy 0 0 0 4 2", "copy 0 6 3 0 0", "copy 0 0 3 4 0"}) {
            known().refuses(call, INDEX);
        }
    }

    private static void readAndWrite() {
        t.says(31, FIRST);
        known("lose 3").refuses("write 4 3", BAD).refuses("write -1 3", BAD).refuses("write 0 4", BAD).refuses("write 0 -1", BAD)
            .refuses("write 4 0", BAD).refuses("write 0 3", NULL).refuses("write 3 3", NULL);
        t.says(3, "BAD; NULL");
        known("lose 3").refuses("read 3 0 0 20", NULL).refuses("read 3 0 0 19", BAD).answers("count 4", 49);
    }

    private static void findings() {
        t.says(32, "8 the number of the latest FINDING (0 before any)");
        // what is refused as BAD, NOT or FULL is no FINDING, and neither is a call that is done
        t.after("lose 0").answers("count 8", 1).answers("sheet 0 0 2", 2).answers("count 8", 1).answers("put 0 0 2 0", INDEX)
            .answers("count 8", 2).answers("lose 9", BAD).answers("count 8", 2).answers("cut 0 0 1 0", NOT).answers("count 8", 2)
            .answers("put 0 1 0 0", CAST).answers("count 8", 3).answers("type 256", BAD).answers("count 8", 3)
            .answers("sheet 1 1 2", 2).answers("copy 0 0 1 0 1", STORE).answers("count 8", 4).answers("get 0 0 0", 0)
            .answers("count 8", 4).answers("sheet 2 0 -1", SIZE).answers("count 8", 5).answers("get 2 0 0", LOW)
            .answers("count 8", 1).answers("write 0 3", NULL).answers("count 8", 1).answers("get 0 0 -1", LOW).answers("count 8", 2)
            .answers("get 0 2 -1", LOW).answers("count 8", 3).answers("get 9 2 -1", LOW).answers("count 8", 3);
        t.after(Sentences.toldFull(), "lose 3").refuses("tell 0 0 0 20", FULL).answers("count 8", 1);
        t.says(33, "count() 0 to 7");
        LevelBreaks x = Sentences.made(java.util.List.of(Sentences.known()));
        known("lose 0", "lose 0").answers("count 8", 1).answers("digest", x.digest());
    }
}
