/** Promises 16 to 18: the STREAM, and parts (1) and (2) of an HOUR, a test for each sentence. */
final class StreamSentences {
    private static final int[] FAR = {Integer.MIN_VALUE, Integer.MIN_VALUE + 1, -1000000, 1000000, Integer.MAX_VALUE};

    private StreamSentences() {
    }

    static void all() {
        streamBounds();
        comeBounds();
        hoursBounds();
        hoursUpTo2000();
        whoRuns();
        changed();
        changedOfEachSize();
        changedOnlyIf();
        washedOrRests();
        wornOut();
        staysWornOut();
        letters();
        lettersOfOneThatDidNotRun();
        washStuck();
        washTwiceCut();
        washU();
        washPores();
        washAnew();
    }

    /** One more FILTER with one CELL: its number. */
    static int bed(ClogHouse x, int pore, int take) {
        int f = x.filter();
        x.cell(f, pore, take);
        return f;
    }

    /**
     * One more FILTER whose lower CELL holds all GRAINS of SIZE 7 that come to it, till it is shut; its upper CELL
     * holds none of them, since STICK of SIZE 7 is 0.
     */
    static int catching(ClogHouse x, int pore, int take) {
        int f = bed(x, 20, 1000);
        x.cell(f, pore, take);
        x.grain(7, 0, 0);
        return f;
    }

    private static void streamBounds() {
        Check.says(16, "STREAM: Q (1 .. 1,000)");
        ClogHouse x = new ClogHouse();
        Check.due("1", true, x.stream(1));
        Check.due("Q", 1, x.count(9));
        Check.due("1,000", true, x.stream(1000));
        Check.due("Q", 1000, x.count(9));
        Check.says(16, "Q of the STREAM. False: out of bounds.");
        Check.due("0", false, x.stream(0));
        Check.due("-1", false, x.stream(-1));
        Check.due("1,001", false, x.stream(1001));
        for (int far : FAR) {
            Check.due("Q " + far, false, x.stream(far));
        }
        Check.due("Q is as it was", 1000, x.count(9));
    }

    private static void comeBounds() {
        Check.says(17, "and how many GRAINS of each SIZE (0 .. 9,999) come in an HOUR (as told last; nothing comes without).");
        ClogHouse x = new ClogHouse();
        for (int size = 0; size <= 7; size++) {
            Check.due("9,999", true, x.come(size, 9999));
        }
        x.hours(1);
        Check.due("nothing comes without a STREAM", 0, x.history(1, 7, 0));
        Check.due("nor goes ROUND", 0, x.history(1, 7, 2));
        Check.due("nor is LED", 0, x.led(7, 0));
        x.stream(1);
        x.hours(1);
        for (int size = 0; size <= 7; size++) {
            Check.due("9,999 came", 9999, x.history(2, size, 0));
            Check.due("0", true, x.come(size, 0));
        }
        x.come(3, 5);
        x.come(3, 4);
        x.hours(1);
        Check.due("as told last", 4, x.history(3, 3, 0));
        Check.due("0 came", 0, x.history(3, 7, 0));
        Check.says(17, "GRAINS of a SIZE in it (0 at first).");
        ClogHouse y = new ClogHouse();
        y.stream(5);
        y.hours(1);
        for (int size = 0; size <= 7; size++) {
            Check.due("0 at first", 0, y.history(1, size, 0));
        }
        Check.says(17, "False: out of bounds.");
        Check.due("-1", false, x.come(3, -1));
        Check.due("10,000", false, x.come(3, 10000));
        Check.due("SIZE -1", false, x.come(-1, 5));
        Check.due("SIZE 8", false, x.come(8, 5));
        for (int far : FAR) {
            Check.due("many " + far, false, x.come(3, far));
            Check.due("SIZE " + far, false, x.come(far, 3));
        }
        x.hours(1);
        Check.due("as told last", 4, x.history(4, 3, 0));
    }

    private static void hoursBounds() {
        Check.says(18, "An HOUR: NOW is 1 more; then");
        ClogHouse x = new ClogHouse();
        Check.due("one", 1, x.hours(1));
        Check.due("one more", 2, x.hours(1));
        Check.says(18, "n HOURS (0 .. 200): NOW.");
        Check.due("0", 2, x.hours(0));
        Check.due("200", 202, x.hours(200));
        Check.says(18, "NONE: n");
        Check.due("-1", -1, x.hours(-1));
        Check.due("201", -1, x.hours(201));
        for (int far : FAR) {
            Check.due("n " + far, -1, x.hours(far));
        }
        Check.due("NOW is as it was", 202, x.count(0));
        Check.due("digest, too", 31 * 7 + 202, x.digest());
    }

    private static void hoursUpTo2000() {
        Check.says(18, "HOURS: NOW is 0 at first, 2,000 at most.");
        ClogHouse x = new ClogHouse();
        bed(x, 5, 5);
        for (int i = 1; i <= 9; i++) {
            x.hours(200);
        }
        Check.due("1,999", 1999, x.hours(199));
        Check.says(18, "NOW would be above 2,000.");
        Check.due("2 more", -1, x.hours(2));
        Check.due("200 more", -1, x.hours(200));
        Check.due("none of them went by", 1999, x.count(0));
        Check.due("nor for the FILTER", 1999, x.told(0, 1));
        Check.due("1 more", 2000, x.hours(1));
        Check.due("1 more", -1, x.hours(1));
        Check.due("0 more", 2000, x.hours(0));
    }

    private static void whoRuns() {
        Check.says(18, "(1) FILTERS, rising, that have CELLS and are not SHUT nor WORN OUT: NEW ones and those that were WASHED or RESTED RUN;");
        ClogHouse x = new ClogHouse();
        x.filter();
        for (int f = 1; f <= 5; f++) {
            bed(x, 5, 5);
        }
        Check.rulesOf(x, "w:1");
        Check.rulesOf(x, "r:1");
        x.hand(2, 1);
        x.set(3, 2, 1);
        x.rule(3, 0);
        x.rule(4, 0);
        x.rule(5, 1);
        x.hours(2);
        int[] are = {0, 1, 4, 5, 2, 3};
        for (int f = 0; f <= 5; f++) {
            Check.due("FILTER " + f + " is", are[f], x.told(f, 0));
            x.rule(f, ClogHouse.NONE);
        }
        x.hours(1);
        int[] areThen = {0, 1, 4, 5, 1, 1};
        for (int f = 0; f <= 5; f++) {
            Check.due("without RULES FILTER " + f + " is", areThen[f], x.told(f, 0));
        }
        Check.due("those that RAN", 3, x.count(2));
        ClogHouse y = new ClogHouse();
        bed(y, 5, 5);
        Check.ruled(y, 0, "w:0;r:0;c:0;u:1000");
        y.hours(1);
        Check.due("with RULES that are all 0: it RUNS", 1, y.told(0, 0));
        ClogHouse z = new ClogHouse();
        bed(z, 5, 5);
        Check.ruled(z, 0, "w:i+1;r:1;c:1");
        z.hand(0, 1);
        z.hours(1);
        Check.due("a SHUT one is not asked for its RULES", 4, z.told(0, 0));
        z.filter();
        z.rule(1, 0);
        z.hours(1);
        Check.due("nor one without CELLS", 0, z.told(1, 0));
    }

    /** 100 STUCK in its lower CELL, 65 loose in each, a CAKE of 40, one WASH made, PORES one greater. */
    private static ClogHouse used() {
        ClogHouse x = new ClogHouse();
        bed(x, 5, 1000);
        x.cell(0, 4, 1000);
        x.stream(10);
        x.grain(4, 0, 0);
        x.grain(4, 2, 1000);
        x.come(4, 100);
        x.hours(1);
        Check.ruled(x, 0, "w:1;u:1000");
        x.hours(1);
        x.rule(0, ClogHouse.NONE);
        x.grain(4, 0, 1000);
        x.come(4, 130);
        x.come(6, 40);
        x.hours(1);
        x.come(4, 0);
        x.come(6, 0);
        Check.due("STUCK", 100, x.held(0, 1, 4, 1));
        Check.due("held below", 165, x.held(0, 1, 4, 0));
        Check.due("held above", 65, x.held(0, 0, 4, 0));
        return x;
    }

    private static void changed() {
        Check.says(18, "but with RULES: if WORTH of c is unlike 0 it is CHANGED (all that it holds, its CAKE too, is CARRIED OFF; STUCK 0, WASHES made and HOURS since 0, PORES as they were told; it RUNS);");
        String[] texts = {"c:1", "c:0-1", "c:9999*9999", "w:1;r:1;c:1", "c:k=40?1", "c:n=1&h=1?2"};
        for (String text : texts) {
            ClogHouse x = used();
            Check.due("PORE ahead", 6, x.celled(0, 0, 0));
            Check.due("CAKE ahead", 40, x.told(0, 3));
            Check.due("HOURS since ahead", 1, x.told(0, 1));
            Check.ruled(x, 0, text);
            x.hours(1);
            Check.due(text + ": it RUNS", 1, x.told(0, 0));
            Check.due("CARRIED OFF, STUCK too", 230, x.led(4, 3));
            Check.due("its CAKE too", 40, x.led(6, 3));
            Check.due("CAKE", 0, x.told(0, 3));
            Check.due("held", 0, x.held(0, 1, 4, 0));
            Check.due("held in all", 0, x.celled(0, 1, 4));
            Check.due("held in all above", 0, x.celled(0, 0, 4));
            Check.due("STUCK", 0, x.held(0, 1, 4, 1));
            Check.due("WASHES made", 0, x.told(0, 2));
            Check.due("HOURS since: 0, and the HOUR in which it RAN", 1, x.told(0, 1));
            Check.due("PORES as they were told", 5, x.celled(0, 0, 0));
            Check.due("of the lower CELL, too", 4, x.celled(0, 1, 0));
            Check.due("its share", 10, x.told(0, 6));
        }
    }

    private static void changedOfEachSize() {
        Check.says(18, "all that it holds, its CAKE too, is CARRIED OFF;");
        ClogHouse x = new ClogHouse();
        bed(x, 5, 1000);
        x.stream(10);
        for (int size = 0; size <= 7; size++) {
            x.come(size, 1000);
        }
        x.hours(1);
        for (int size = 0; size <= 7; size++) {
            x.come(size, 0);
        }
        Check.ruled(x, 0, "c:1");
        x.hours(1);
        for (int size = 0; size <= 7; size++) {
            Check.due("of SIZE " + size, size < 5 ? 200 / (5 - size) : 1000, x.led(size, 3));
            Check.due("none of SIZE " + size + " is held", 0, x.led(size, 1));
        }
    }

    private static void changedOnlyIf() {
        Check.says(18, "if WORTH of c is unlike 0 it is CHANGED");
        String[] texts = {"c:0", "c:k=41?1", "w:0", "c:1-1"};
        for (String text : texts) {
            ClogHouse x = used();
            Check.ruled(x, 0, text);
            x.hours(1);
            Check.due(text + ": nothing is CARRIED OFF", 0, x.led(6, 3));
            Check.due(text + ": CAKE", 40, x.told(0, 3));
            Check.due(text + ": it RUNS", 1, x.told(0, 0));
        }
    }

    private static int isWith(String text) {
        ClogHouse x = new ClogHouse();
        bed(x, 5, 5);
        Check.ruled(x, 0, text);
        x.hours(1);
        return x.told(0, 0);
    }

    private static void washedOrRests() {
        Check.says(18, "else, if WORTH of w is, it is WASHED in this HOUR; else, if WORTH of r is, it RESTS.");
        Check.due("w", 2, isWith("w:1"));
        Check.due("w below 0", 2, isWith("w:0-1"));
        Check.due("w ahead of r", 2, isWith("r:1;w:1"));
        Check.due("w 0, r", 3, isWith("r:1;w:0"));
        Check.due("r", 3, isWith("r:1"));
        Check.due("r below 0", 3, isWith("r:0-5"));
        Check.due("c ahead of w", 1, isWith("r:1;w:1;c:1"));
        Check.due("c 0", 2, isWith("r:1;w:1;c:0"));
        Check.due("r 0", 1, isWith("r:0"));
        Check.due("u alone", 1, isWith("u:1000"));
    }

    private static void wornOut() {
        Check.says(18, "One that is to be WASHED more often than it bears is WORN OUT instead.");
        ClogHouse x = new ClogHouse();
        bed(x, 4, 1000);
        x.stream(10);
        x.set(0, 2, 3);
        Check.ruled(x, 0, "w:h>0?1;u:1000");
        x.come(7, 9);
        x.hours(6);
        Check.due("WASHED a third time", 2, x.told(0, 0));
        x.hours(1);
        Check.due("it RUNS", 1, x.told(0, 0));
        x.hours(1);
        Check.due("WORN OUT instead of a fourth", 5, x.told(0, 0));
        Check.due("its CAKE is not WASHED OUT", 9, x.told(0, 3));
        Check.due("nor its PORE greater again", 7, x.celled(0, 0, 0));
        Check.due("WASHES made", 3, x.told(0, 2));
        Check.due("HOURS since", 1, x.told(0, 1));
        Check.due("GRAINS go ROUND", 9, x.history(8, 7, 2));
        Check.due("count(4)", 1, x.count(4));
        Check.due("it did not RUN", 0, x.count(2));
        ClogHouse y = new ClogHouse();
        bed(y, 5, 1000);
        Check.ruled(y, 0, "w:1");
        y.hours(10);
        y.set(0, 2, 4);
        y.hours(1);
        Check.due("it bears less than it was WASHED", 5, y.told(0, 0));
        ClogHouse z = new ClogHouse();
        bed(z, 5, 1000);
        z.set(0, 2, 1);
        Check.ruled(z, 0, "w:1;c:n=1?1");
        z.hours(9);
        Check.due("CHANGED ahead of the next WASH it is never WORN OUT", 2, z.told(0, 0));
        Check.due("WASHES made", 1, z.told(0, 2));
    }

    private static void staysWornOut() {
        Check.says(18, "(It stays so, till it is CHANGED by hand.)");
        ClogHouse x = new ClogHouse();
        bed(x, 5, 1000);
        x.stream(10);
        x.set(0, 2, 1);
        Check.ruled(x, 0, "w:1");
        x.hours(2);
        Check.due("WORN OUT", 5, x.told(0, 0));
        Check.ruled(x, 0, "c:1");
        x.hours(1);
        Check.due("its RULES can't CHANGE it", 5, x.told(0, 0));
        x.rule(0, ClogHouse.NONE);
        x.hours(1);
        Check.due("without RULES", 5, x.told(0, 0));
        x.set(0, 2, 200);
        x.hours(1);
        Check.due("though it bears more", 5, x.told(0, 0));
        Check.due("it can't go on", false, x.hand(0, 2));
        x.hours(1);
        Check.due("it stays so", 5, x.told(0, 0));
        Check.due("HOURS since stand", 0, x.told(0, 1));
        Check.due("CHANGED by hand", true, x.hand(0, 0));
        Check.due("it is NEW", 0, x.told(0, 0));
        x.hours(1);
        Check.due("it RUNS", 1, x.told(0, 0));
    }

    /** True if the FILTER RESTS in the next HOUR by this CONDITION. */
    private static boolean holds(ClogHouse x, int filter, String condition) {
        Check.ruled(x, filter, "r:" + condition + "?1");
        x.hours(1);
        return x.told(filter, 0) == 3;
    }

    private static ClogHouse two() {
        ClogHouse x = new ClogHouse();
        bed(x, 10, 1000);
        bed(x, 5, 1000);
        x.stream(20);
        x.come(0, 200);
        x.come(6, 50);
        x.hours(2);
        return x;
    }

    private static void letters() {
        Check.says(18, "Letters: p the PUSH of the HOUR ahead (0 if it did not RUN then), h HOURS since (5), o GRAINS that came out of it in the HOUR ahead, i its number, n how often it was WASHED, k its CAKE.");
        int p = two().told(1, 7);
        int o = two().told(1, 8);
        int k = two().told(1, 3);
        Check.due("there is a PUSH, and some came OUT, and a CAKE", true, p > 0 && o > 0 && k > 0);
        Check.due("p", true, holds(two(), 1, "p=" + p));
        Check.due("p is not more", false, holds(two(), 1, "p>" + p));
        Check.due("h", true, holds(two(), 1, "h=2"));
        Check.due("o", true, holds(two(), 1, "o=" + o));
        Check.due("i", true, holds(two(), 1, "i=1"));
        Check.due("i of the other", true, holds(two(), 0, "i=0"));
        Check.due("n", true, holds(two(), 1, "n=0"));
        Check.due("k", true, holds(two(), 1, "k=" + k));
        Check.due("k of the other", true, holds(two(), 0, "k=0"));
        ClogHouse x = two();
        Check.ruled(x, 1, "w:1");
        x.hours(3);
        Check.due("n: thrice", true, holds(x, 1, "n=3&h=0&k=0"));
        Check.due("in the first HOUR all are 0 but i", true, first("p=0&h=0&o=0&i=0&n=0&k=0"));
    }

    private static boolean first(String condition) {
        ClogHouse x = new ClogHouse();
        bed(x, 5, 1000);
        x.stream(20);
        x.come(0, 200);
        x.come(6, 50);
        return holds(x, 0, condition);
    }

    private static void lettersOfOneThatDidNotRun() {
        Check.says(18, "p the PUSH of the HOUR ahead (0 if it did not RUN then)");
        String[] texts = {"w:1", "r:1"};
        for (String text : texts) {
            ClogHouse x = two();
            Check.ruled(x, 1, text);
            x.hours(1);
            Check.due(text + ": p", true, holds(x, 1, "p=0&o=0"));
        }
        ClogHouse y = two();
        y.hand(1, 1);
        y.hours(1);
        y.hand(1, 2);
        Check.due("SHUT: p", true, holds(y, 1, "p=0&o=0"));
    }

    /** So many loose GRAINS of SIZE 7 in CELL 1, WASHED with u by this STAY and OFF. */
    private static ClogHouse washed(int many, int stay, int off, String u) {
        ClogHouse x = new ClogHouse();
        catching(x, 5, 1000);
        x.stream(10);
        x.come(7, many);
        x.hours(1);
        x.grain(7, 2, stay);
        x.grain(7, 1, off);
        Check.ruled(x, 0, "w:1" + u);
        x.come(7, 0);
        x.hours(1);
        return x;
    }

    private static void washStuck() {
        Check.says(18, "(2) WASHED ones, rising: with u, WORTH of u (0 .. 1,000): of each CELL and SIZE: of what it holds (not STUCK) STAY thousandths (cut) become STUCK;");
        Check.due("19 * 50 / 1,000, cut", 0, washed(19, 50, 600, "").held(0, 1, 7, 1));
        Check.due("20 * 50 / 1,000", 1, washed(20, 50, 600, "").held(0, 1, 7, 1));
        Check.due("39 * 50 / 1,000, cut", 1, washed(39, 50, 600, "").held(0, 1, 7, 1));
        Check.due("STAY 0", 0, washed(999, 0, 600, "").held(0, 1, 7, 1));
        Check.due("STAY 1,000", 999, washed(999, 1000, 600, "").held(0, 1, 7, 1));
        Check.due("STAY 1,000: none is WASHED OUT", 0, washed(999, 1000, 1000, ";u:1000").led(7, 2));
        ClogHouse x = washed(1000, 500, 600, "");
        Check.due("500 of 1,000", 500, x.held(0, 1, 7, 1));
        x.hours(1);
        Check.due("not of STUCK ones: 250 more of 500", 750, x.held(0, 1, 7, 1));
        Check.due("all are held still", 1000, x.held(0, 1, 7, 0));
    }

    private static void washTwiceCut() {
        Check.says(18, "of the rest so many times OFF by 1,000 (cut) times u by 1,000, cut, are WASHED OUT;");
        Check.due("3 * 500 / 1,000 is 1, 1 * 700 / 1,000 is 0", 0, washed(3, 0, 500, ";u:700").led(7, 2));
        Check.due("4 * 500 / 1,000 is 2, 2 * 700 / 1,000 is 1", 1, washed(4, 0, 500, ";u:700").led(7, 2));
        Check.due("1 * 1,000 / 1,000, 1 * 999 / 1,000", 0, washed(1, 0, 1000, ";u:999").led(7, 2));
        Check.due("1 * 1,000 / 1,000, 1 * 1,000 / 1,000", 1, washed(1, 0, 1000, ";u:1000").led(7, 2));
        Check.due("1 * 999 / 1,000", 0, washed(1, 0, 999, ";u:1000").led(7, 2));
        Check.due("OFF 0", 0, washed(999, 0, 0, ";u:1000").led(7, 2));
        Check.due("OFF 1,000", 999, washed(999, 0, 1000, ";u:1000").led(7, 2));
        Check.due("OFF 1,000: none is held", 0, washed(999, 0, 1000, ";u:1000").held(0, 1, 7, 0));
        Check.due("of the rest: 999 less 99", 900, washed(999, 100, 1000, ";u:1000").led(7, 2));
        Check.due("STUCK are held still", 99, washed(999, 100, 1000, ";u:1000").held(0, 1, 7, 0));
    }

    private static void washU() {
        Check.says(18, "with u, WORTH of u (0 .. 1,000)");
        Check.due("0", 0, washed(9999, 0, 1000, ";u:0").led(7, 2));
        Check.due("1", 9, washed(9999, 0, 1000, ";u:1").led(7, 2));
        Check.due("none", 0, washed(999, 0, 1000, "").led(7, 2));
        Check.due("below 0", 0, washed(999, 0, 1000, ";u:0-1").led(7, 2));
        Check.due("far below 0", 0, washed(999, 0, 1000, ";u:0-9999*9999").led(7, 2));
        Check.due("1,000", 999, washed(999, 0, 1000, ";u:1000").led(7, 2));
        Check.due("1,001", 999, washed(999, 0, 1000, ";u:1001").led(7, 2));
        Check.due("far above", 999, washed(999, 0, 1000, ";u:9999*9999").led(7, 2));
        Check.due("with letters", 500, washed(1000, 0, 1000, ";u:h=1&n=0&i=0?500").led(7, 2));
        ClogHouse each = new ClogHouse();
        for (int f = 0; f < 3; f++) {
            bed(each, 5, 10);
        }
        int rules = Check.rulesOf(each, "w:1;u:i=1?501");
        for (int f = 0; f < 3; f++) {
            each.rule(f, rules);
        }
        each.hours(1);
        for (int f = 0; f < 3; f++) {
            Check.due("with letters of each one: PORE of " + f, f == 1 ? 6 : 5, each.celled(f, 0, 0));
        }
        Check.says(18, "the CAKE is WASHED OUT, all.");
        String[] texts = {"w:1", "w:1;u:0", "w:1;u:1000"};
        for (String text : texts) {
            ClogHouse x = new ClogHouse();
            bed(x, 5, 1000);
            x.stream(10);
            x.grain(6, 1, 0);
            x.grain(6, 2, 1000);
            x.come(6, 33);
            x.come(7, 44);
            x.hours(1);
            Check.due("CAKE ahead", 77, x.told(0, 3));
            Check.ruled(x, 0, text);
            x.hours(1);
            Check.due("CAKE behind " + text, 0, x.told(0, 3));
            Check.due("WASHED OUT of SIZE 6", 33, x.led(6, 2));
            Check.due("WASHED OUT of SIZE 7", 44, x.led(7, 2));
        }
    }

    private static int poreBehind(int pore, int bear, String u, int hours) {
        ClogHouse x = new ClogHouse();
        bed(x, 1, 10);
        x.cell(0, pore, 10);
        x.set(0, 1, bear);
        Check.ruled(x, 0, "w:1;u:" + u);
        x.hours(hours);
        return x.celled(0, 1, 0);
    }

    private static void washPores() {
        Check.says(18, "If u is above BEAR, each CELL's PORE is 1 greater (20 at most).");
        Check.due("as BEAR", 5, poreBehind(5, 700, "700", 1));
        Check.due("above BEAR", 6, poreBehind(5, 700, "701", 1));
        Check.due("above BEAR thrice", 8, poreBehind(5, 700, "701", 3));
        Check.due("19", 20, poreBehind(19, 700, "701", 1));
        Check.due("20 at most", 20, poreBehind(20, 700, "701", 1));
        Check.due("20 at most, behind many", 20, poreBehind(15, 700, "701", 30));
        Check.due("u is 1,000 at most: not above 1,000", 5, poreBehind(5, 1000, "9999", 1));
        Check.due("u is 1,000 at most: above 999", 6, poreBehind(5, 999, "9999", 1));
        Check.due("u 0", 5, poreBehind(5, 1, "0", 1));
        ClogHouse x = new ClogHouse();
        bed(x, 3, 10);
        x.cell(0, 7, 10);
        x.cell(0, 20, 10);
        Check.ruled(x, 0, "w:1;u:1000");
        x.hours(1);
        Check.due("each CELL: 3", 4, x.celled(0, 0, 0));
        Check.due("each CELL: 7", 8, x.celled(0, 1, 0));
        Check.due("each CELL: 20", 20, x.celled(0, 2, 0));
    }

    private static void washAnew() {
        Check.says(18, "HOURS since begin anew (the HOUR is 0), it was WASHED once more.");
        ClogHouse x = new ClogHouse();
        bed(x, 5, 10);
        x.hours(7);
        Check.due("HOURS since", 7, x.told(0, 1));
        Check.due("WASHES made", 0, x.told(0, 2));
        Check.ruled(x, 0, "w:1");
        x.hours(1);
        Check.due("the HOUR is 0", 0, x.told(0, 1));
        Check.due("WASHED once more", 1, x.told(0, 2));
        x.hours(1);
        Check.due("the HOUR is 0 again", 0, x.told(0, 1));
        Check.due("WASHED once more", 2, x.told(0, 2));
        x.rule(0, ClogHouse.NONE);
        x.hours(1);
        Check.due("one since", 1, x.told(0, 1));
    }
}
