/** Promises 1 to 9, a test for each sentence that names a bound, a first worth or a refused call. */
final class FilterSentences {
    private static final int[] FAR = {Integer.MIN_VALUE, Integer.MIN_VALUE + 1, -1000000, 1000000, Integer.MAX_VALUE};
    /** 10,000 by WIDTH and by WIDTH again, for WIDTH 1 to 20. */
    private static final int[] RESISTS = {10000, 2500, 1111, 625, 400, 277, 204, 156, 123, 100,
        82, 69, 59, 51, 44, 39, 34, 30, 27, 25};

    private FilterSentences() {
    }

    static void all() {
        newObject();
        grainBounds();
        stick();
        off();
        stay();
        filterBounds();
        cellBounds();
        cellThatRan();
        setBounds();
        press();
        bear();
        washesBorne();
        width();
        resist();
        celledOthers();
        heldBounds();
        states();
        toldOfNew();
        toldCakeAndBed();
        toldLatest();
        pushBounds();
        pushLeast();
        pushNone();
    }

    /** FILTER 0 with one CELL, and a stream of 10. */
    private static ClogHouse one(int pore, int take) {
        ClogHouse x = new ClogHouse();
        x.cell(x.filter(), pore, take);
        x.stream(10);
        return x;
    }

    /**
     * FILTER 0 whose lower CELL holds all GRAINS of SIZE 7 that come, till it is shut: the upper CELL is wider
     * and holds none, since STICK of SIZE 7 is 0.
     */
    private static ClogHouse catching(int pore, int take) {
        ClogHouse x = one(20, 1000);
        x.cell(0, pore, take);
        x.grain(7, 0, 0);
        return x;
    }

    private static void newObject() {
        Check.says(1, "HOURS: NOW is 0 at first");
        Check.due("count(0)", 0, new ClogHouse().count(0));
        Check.due("hours(0)", 0, new ClogHouse().hours(0));
        Check.due("history(1, 0, 0)", -1, new ClogHouse().history(1, 0, 0));
        Check.says(1, "HOUR 0, no FILTERS.");
        ClogHouse x = new ClogHouse();
        Check.due("count(0)", 0, x.count(0));
        Check.due("count(1)", 0, x.count(1));
        Check.due("cell(0, 5, 5)", -1, x.cell(0, 5, 5));
        Check.due("set(0, 0, 5)", false, x.set(0, 0, 5));
        Check.due("celled(0, 0, 0)", -1, x.celled(0, 0, 0));
        Check.due("held(0, 0, 0, 0)", -1, x.held(0, 0, 0, 0));
        Check.due("told(0, 0)", -1, x.told(0, 0));
        Check.due("push(0, 5)", -1, x.push(0, 5));
        Check.due("rule(0, -1)", false, x.rule(0, -1));
        Check.due("hand(0, 0)", false, x.hand(0, 0));
        Check.due("ripe(0)", -1, x.ripe(0));
        Check.due("gauge(0, 0, 1, 1)", -1, x.gauge(0, 0, 1, 1));
        Check.due("back(0, 0, 0, 0)", -1, x.back(0, 0, 0, 0));
        Check.due("barred(0, 0, 0)", -1, x.barred(0, 0, 0));
        Check.due("no FILTER came of all this", 0, x.count(1));
        x.filter();
        x.hours(3);
        Check.due("another object has none of them", 0, new ClogHouse().count(1));
        Check.due("nor its HOURS", 0, new ClogHouse().count(0));
        Check.says(1, "The constants: `NONE = -1`: None; refused.");
        Check.due("NONE", -1, ClogHouse.NONE);
    }

    private static void grainBounds() {
        Check.says(2, "STICK (0), OFF (1), STAY (2) of a SIZE.");
        ClogHouse x = new ClogHouse();
        for (int what = 0; what <= 2; what++) {
            Check.due("grain(4, " + what + ", 500)", true, x.grain(4, what, 500));
        }
        Check.due("what -1", false, x.grain(4, -1, 500));
        Check.due("what 3", false, x.grain(4, 3, 500));
        Check.says(2, "SIZES of GRAINS 0 .. 7.");
        for (int size = 0; size <= 7; size++) {
            Check.due("SIZE " + size, true, x.grain(size, 0, 1));
        }
        Check.due("SIZE -1", false, x.grain(-1, 0, 1));
        Check.due("SIZE 8", false, x.grain(8, 0, 1));
        Check.says(2, "False: out of bounds.");
        for (int far : FAR) {
            Check.due("SIZE " + far, false, x.grain(far, 0, 1));
            Check.due("what " + far, false, x.grain(0, far, 1));
            for (int what = 0; what <= 2; what++) {
                Check.due("v " + far, false, x.grain(0, what, far));
            }
        }
    }

    private static void stick() {
        Check.says(2, "STICK of a SIZE (0 .. 1,000; 200 at first)");
        ClogHouse x = one(10, 1000);
        for (int size = 0; size <= 7; size++) {
            x.come(size, 1000);
        }
        x.hours(1);
        for (int size = 0; size <= 7; size++) {
            Check.due("200 at first, SIZE " + size, 200 / (10 - size), x.held(0, 0, size, 0));
        }
        ClogHouse y = one(1, 1000);
        y.come(0, 100);
        Check.due("0", true, y.grain(0, 0, 0));
        Check.due("-1", false, y.grain(0, 0, -1));
        y.hours(1);
        Check.due("with 0 none is held, and -1 changed nothing", 0, y.held(0, 0, 0, 0));
        Check.due("1,000", true, y.grain(0, 0, 1000));
        Check.due("1,001", false, y.grain(0, 0, 1001));
        y.hours(1);
        Check.due("with 1,000 by 1 all are, and 1,001 changed nothing", 100, y.held(0, 0, 0, 0));
    }

    /** All 999 GRAINS of a SIZE that is 1 less than WIDTH are held; then they are WASHED with u 1,000. */
    private static ClogHouse washed(int size, int what, int v) {
        ClogHouse x = one(size + 1, 1000);
        x.grain(size, 0, 1000);
        x.come(size, 999);
        x.hours(1);
        if (what >= 0) {
            Check.due("grain(" + size + ", " + what + ", " + v + ")", v >= 0 && v <= 1000, x.grain(size, what, v));
        }
        Check.ruled(x, 0, "w:1;u:1000");
        x.hours(1);
        return x;
    }

    private static void off() {
        Check.says(2, "OFF of a SIZE (0 .. 1,000; 600 at first)");
        for (int size = 0; size <= 7; size++) {
            Check.due("600 at first: 950 * 600 / 1,000", 570, washed(size, -1, 0).led(size, 2));
            Check.due("0", 0, washed(size, 1, 0).led(size, 2));
            Check.due("1,000", 950, washed(size, 1, 1000).led(size, 2));
            Check.due("-1 changes nothing", 570, washed(size, 1, -1).led(size, 2));
            Check.due("1,001 changes nothing", 570, washed(size, 1, 1001).led(size, 2));
            Check.due("600 at first: 999 * 600 / 1,000", 599, washed(size, 2, 0).led(size, 2));
        }
        Check.due("OFF of another SIZE is as it was", 570, alsoTold(1).led(3, 2));
    }

    private static void stay() {
        Check.says(2, "STAY of a SIZE (0 .. 1,000; 50 at first)");
        for (int size = 0; size <= 7; size++) {
            Check.due("50 at first: 999 * 50 / 1,000", 49, washed(size, -1, 0).held(0, 0, size, 1));
            Check.due("0", 0, washed(size, 2, 0).held(0, 0, size, 1));
            Check.due("1,000", 999, washed(size, 2, 1000).held(0, 0, size, 1));
            Check.due("-1 changes nothing", 49, washed(size, 2, -1).held(0, 0, size, 1));
            Check.due("1,001 changes nothing", 49, washed(size, 2, 1001).held(0, 0, size, 1));
        }
        Check.due("STAY of another SIZE is as it was", 49, alsoTold(2).held(0, 0, 3, 1));
    }

    private static ClogHouse alsoTold(int what) {
        ClogHouse x = one(4, 1000);
        x.grain(2, what, 7);
        x.grain(4, what, 7);
        x.grain(3, 0, 1000);
        x.come(3, 999);
        x.hours(1);
        Check.ruled(x, 0, "w:1;u:1000");
        x.hours(1);
        return x;
    }

    private static void filterBounds() {
        Check.says(3, "A FILTER: its number.");
        ClogHouse x = new ClogHouse();
        Check.due("the first", 0, x.filter());
        Check.due("the second", 1, x.filter());
        Check.says(3, "FILTERS (8 at most)");
        for (int i = 2; i <= 7; i++) {
            Check.due("filter()", i, x.filter());
        }
        Check.due("count(1)", 8, x.count(1));
        Check.due("the eighth has CELLS as the others", 1, x.cell(7, 5, 5));
        Check.says(3, "NONE: there are eight.");
        Check.due("a ninth", -1, x.filter());
        Check.due("and again", -1, x.filter());
        Check.due("count(1)", 8, x.count(1));
        Check.due("there is no FILTER 8", -1, x.told(8, 0));
    }

    private static void cellBounds() {
        Check.says(4, "A CELL more below: how many there are.");
        ClogHouse x = new ClogHouse();
        x.filter();
        x.filter();
        Check.due("the first", 1, x.cell(1, 7, 9));
        Check.due("the second", 2, x.cell(1, 8, 10));
        Check.due("it is below", 8, x.celled(1, 1, 0));
        Check.due("the first is on the top", 7, x.celled(1, 0, 0));
        Check.due("FILTER 0 has none of them", 0, x.told(0, 5));
        Check.says(4, "each with a PORE (1 .. 20) and a TAKE (1 .. 1,000)");
        Check.due("PORE 1", 1, x.cell(0, 1, 5));
        Check.due("PORE 20", 2, x.cell(0, 20, 5));
        Check.due("TAKE 1", 3, x.cell(0, 5, 1));
        Check.due("TAKE 1,000", 4, x.cell(0, 5, 1000));
        Check.says(4, "out of bounds");
        Check.due("PORE 0", -1, x.cell(0, 0, 5));
        Check.due("PORE 21", -1, x.cell(0, 21, 5));
        Check.due("TAKE 0", -1, x.cell(0, 5, 0));
        Check.due("TAKE 1,001", -1, x.cell(0, 5, 1001));
        for (int far : FAR) {
            Check.due("PORE " + far, -1, x.cell(0, far, 5));
            Check.due("TAKE " + far, -1, x.cell(0, 5, far));
        }
        Check.due("none came of it", 4, x.told(0, 5));
        Check.says(4, "NONE: no such FILTER");
        Check.due("FILTER -1", -1, x.cell(-1, 5, 5));
        Check.due("FILTER 2", -1, x.cell(2, 5, 5));
        Check.due("FILTER 8", -1, x.cell(8, 5, 5));
        for (int far : FAR) {
            Check.due("FILTER " + far, -1, x.cell(far, 5, 5));
        }
        Check.says(4, "CELLS from the top down (1 .. 10, told before it RUNS first)");
        for (int i = 5; i <= 10; i++) {
            Check.due("cell(0, " + i + ", 5)", i, x.cell(0, i, 5));
        }
        Check.due("the tenth", 10, x.celled(0, 9, 0));
        Check.says(4, "there are ten");
        Check.due("an eleventh", -1, x.cell(0, 5, 5));
        Check.due("there are ten", 10, x.told(0, 5));
        Check.due("the other FILTER takes more", 3, x.cell(1, 5, 5));
    }

    private static void cellThatRan() {
        Check.says(4, "it RAN.");
        ClogHouse x = one(5, 5);
        Check.due("ahead of its first HOUR", 2, x.cell(0, 5, 5));
        x.hours(0);
        Check.due("no HOUR went by", 3, x.cell(0, 5, 5));
        x.hours(1);
        Check.due("it RAN", -1, x.cell(0, 5, 5));
        Check.due("as many as before", 3, x.told(0, 5));
        x.hand(0, 1);
        Check.due("SHUT, it RAN before", -1, x.cell(0, 5, 5));
        x.hand(0, 2);
        Check.due("it goes on, it RAN before", -1, x.cell(0, 5, 5));
        x.filter();
        x.hours(1);
        Check.due("without CELLS it can't RUN", 1, x.cell(1, 5, 5));
    }

    private static void setBounds() {
        Check.says(5, "PRESS (0), BEAR (1), WASHES it bears (2).");
        ClogHouse x = new ClogHouse();
        x.filter();
        x.filter();
        for (int what = 0; what <= 2; what++) {
            Check.due("set(1, " + what + ", 1)", true, x.set(1, what, 1));
        }
        Check.says(5, "PRESS (1 .. 1,000; 100 at first), BEAR (1 .. 1,000; 500 at first), WASHES it bears (1 .. 200; 50 at first).");
        for (int what = 0; what <= 2; what++) {
            int most = what == 2 ? 200 : 1000;
            Check.due("the least of " + what, true, x.set(0, what, 1));
            Check.due("the most of " + what, true, x.set(0, what, most));
            Check.due("0 of " + what, false, x.set(0, what, 0));
            Check.due("above the most of " + what, false, x.set(0, what, most + 1));
        }
        Check.says(5, "False: no such ones, out of bounds.");
        Check.due("FILTER -1", false, x.set(-1, 0, 5));
        Check.due("FILTER 2", false, x.set(2, 0, 5));
        Check.due("what -1", false, x.set(0, -1, 5));
        Check.due("what 3", false, x.set(0, 3, 5));
        for (int far : FAR) {
            Check.due("FILTER " + far, false, x.set(far, 0, 5));
            Check.due("what " + far, false, x.set(0, far, 5));
            for (int what = 0; what <= 2; what++) {
                Check.due("v " + far, false, x.set(0, what, far));
            }
        }
    }

    /** BED 400 and a CAKE of 1,000: with a stream of 10, PUSH is 140 and what presses the CAKE more. */
    private static ClogHouse caked() {
        ClogHouse x = one(5, 1000);
        x.come(7, 1000);
        x.hours(1);
        return x;
    }

    private static void press() {
        Check.says(5, "PRESS (1 .. 1,000; 100 at first)");
        ClogHouse x = caked();
        Check.due("100 at first", 141, x.push(0, 10));
        Check.due("100 at first: 500 * (400 + 1,000 * 239 / 100) / 100", 13950, x.push(0, 500));
        x.set(0, 0, 1000);
        Check.due("1,000", 140, x.push(0, 10));
        x.set(0, 0, 1001);
        Check.due("1,001 changes nothing", 140, x.push(0, 10));
        x.set(0, 0, 1);
        Check.due("1", -1, x.push(0, 10));
        x.set(0, 0, 0);
        Check.due("0 changes nothing", -1, x.push(0, 10));
        x.set(0, 0, 2);
        Check.due("2", 279, x.push(0, 10));
    }

    private static int poreWashedWith(int bear, int u) {
        ClogHouse x = one(5, 10);
        if (bear > 0) {
            x.set(0, 1, bear);
        }
        Check.ruled(x, 0, "w:1;u:" + u);
        x.hours(1);
        return x.celled(0, 0, 0);
    }

    private static void bear() {
        Check.says(5, "BEAR (1 .. 1,000; 500 at first)");
        Check.due("500 at first: 500", 5, poreWashedWith(0, 500));
        Check.due("500 at first: 501", 6, poreWashedWith(0, 501));
        Check.due("1: 1", 5, poreWashedWith(1, 1));
        Check.due("1: 2", 6, poreWashedWith(1, 2));
        Check.due("1,000: 1,000", 5, poreWashedWith(1000, 1000));
        Check.due("999: 1,000", 6, poreWashedWith(999, 1000));
        Check.due("1,001 changes nothing", 6, poreWashedWith(1001, 501));
    }

    private static void washesBorne() {
        Check.says(5, "WASHES it bears (1 .. 200; 50 at first)");
        int[] borne = {0, 1, 2, 200, 201};
        int[] washes = {50, 1, 2, 200, 50};
        for (int i = 0; i < borne.length; i++) {
            ClogHouse x = one(5, 10);
            if (borne[i] > 0) {
                x.set(0, 2, borne[i]);
            }
            Check.ruled(x, 0, "w:1");
            x.hours(washes[i]);
            Check.due("WASHED as often as it bears", 2, x.told(0, 0));
            Check.due("WASHES made", washes[i], x.told(0, 2));
            x.hours(1);
            Check.due("once more: WORN OUT", 5, x.told(0, 0));
            Check.due("WASHES made", washes[i], x.told(0, 2));
        }
    }

    private static void width() {
        Check.says(6, "Of a CELL: 0 PORE, 1 TAKE, 2 WIDTH, 3 RESIST (NONE: shut), 4 held in all.");
        Check.says(6, "WIDTH of a CELL: its PORE less what it holds in all (STUCK, too) by TAKE, cut; 0 at least: it is shut then.");
        ClogHouse x = catching(5, 10);
        int[] more = {0, 9, 1, 9, 1, 19, 1, 9, 1};
        int[] widths = {5, 5, 4, 4, 3, 2, 1, 1, 0};
        int sum = 0;
        for (int i = 0; i < more.length; i++) {
            x.come(7, more[i]);
            x.hours(1);
            sum += more[i];
            Check.due("held in all", sum, x.celled(0, 1, 4));
            Check.due("WIDTH with " + sum, widths[i], x.celled(0, 1, 2));
            Check.due("PORE", 5, x.celled(0, 1, 0));
            Check.due("TAKE", 10, x.celled(0, 1, 1));
        }
        Check.due("shut: RESIST", -1, x.celled(0, 1, 3));
        ClogHouse y = catching(5, 10);
        y.come(7, 9999);
        y.hours(1);
        Check.due("more than it can take: held in all", 9999, y.celled(0, 1, 4));
        Check.due("0 at least", 0, y.celled(0, 1, 2));
        Check.due("shut: RESIST", -1, y.celled(0, 1, 3));
        ClogHouse z = catching(5, 10);
        z.come(7, 25);
        z.hours(1);
        z.grain(7, 2, 1000);
        Check.ruled(z, 0, "w:1");
        z.hours(1);
        Check.due("all are STUCK", 25, z.held(0, 1, 7, 1));
        Check.due("STUCK, too", 3, z.celled(0, 1, 2));
        Check.due("STUCK, too: held in all", 25, z.celled(0, 1, 4));
        z.rule(0, ClogHouse.NONE);
        z.hours(1);
        Check.due("25 more: 50 in all", 0, z.celled(0, 1, 2));
        z.grain(7, 2, 0);
        z.grain(7, 1, 1000);
        Check.ruled(z, 0, "w:1;u:600");
        z.set(0, 1, 1000);
        z.hours(1);
        Check.due("15 of 25 are WASHED OUT: held in all", 35, z.celled(0, 1, 4));
        Check.due("WIDTH behind the wash", 2, z.celled(0, 1, 2));
    }

    private static void resist() {
        Check.says(6, "RESIST of a CELL: 10,000 by WIDTH and by WIDTH again, each cut, 1 at least (none, if it is shut).");
        for (int pore = 1; pore <= 20; pore++) {
            // so many GRAINS come that the last CELL holds just one of them
            boolean wide = pore > 7;
            ClogHouse x = wide ? one(pore, 1) : catching(pore, 1);
            int last = wide ? 0 : 1;
            Check.due("WIDTH " + pore, RESISTS[pore - 1], x.celled(0, last, 3));
            x.grain(7, 0, wide ? 1000 : 0);
            x.come(7, wide ? 1000 / (1000 / (pore - 7)) + (pore > 8 ? 1 : 0) : 1);
            x.hours(1);
            Check.due("one is held", 1, x.celled(0, last, 4));
            int narrower = pore == 1 ? -1 : RESISTS[pore - 2];
            Check.due("one is held in PORE " + pore, narrower, x.celled(0, last, 3));
        }
    }

    private static void celledOthers() {
        Check.says(6, "NONE for others.");
        ClogHouse x = one(5, 10);
        x.filter();
        Check.due("what -1", -1, x.celled(0, 0, -1));
        Check.due("what 5", -1, x.celled(0, 0, 5));
        Check.due("CELL -1", -1, x.celled(0, -1, 0));
        Check.due("CELL 1", -1, x.celled(0, 1, 0));
        Check.due("CELL 0 of a FILTER without", -1, x.celled(1, 0, 0));
        Check.due("FILTER -1", -1, x.celled(-1, 0, 0));
        Check.due("FILTER 2", -1, x.celled(2, 0, 0));
        for (int far : FAR) {
            Check.due("what " + far, -1, x.celled(0, 0, far));
            Check.due("CELL " + far, -1, x.celled(0, far, 0));
            Check.due("FILTER " + far, -1, x.celled(far, 0, 0));
        }
    }

    private static void heldBounds() {
        Check.says(7, "GRAINS of a SIZE held in a CELL: all (0), STUCK (1).");
        ClogHouse x = catching(5, 1000);
        x.come(7, 1000);
        x.hours(1);
        Check.due("all", 1000, x.held(0, 1, 7, 0));
        Check.due("STUCK", 0, x.held(0, 1, 7, 1));
        Check.ruled(x, 0, "w:1;u:500");
        x.hours(1);
        Check.due("all: less 950 * 600 / 1,000 * 500 / 1,000", 1000 - 285, x.held(0, 1, 7, 0));
        Check.due("STUCK: 1,000 * 50 / 1,000", 50, x.held(0, 1, 7, 1));
        Check.due("of another SIZE", 0, x.held(0, 1, 6, 0));
        Check.due("in another CELL", 0, x.held(0, 0, 7, 0));
        Check.says(7, "NONE: no such ones.");
        x.filter();
        Check.due("SIZE -1", -1, x.held(0, 1, -1, 0));
        Check.due("SIZE 8", -1, x.held(0, 1, 8, 0));
        Check.due("what -1", -1, x.held(0, 1, 7, -1));
        Check.due("what 2", -1, x.held(0, 1, 7, 2));
        Check.due("CELL -1", -1, x.held(0, -1, 7, 0));
        Check.due("CELL 2", -1, x.held(0, 2, 7, 0));
        Check.due("CELL 0 of a FILTER without", -1, x.held(1, 0, 7, 0));
        Check.due("FILTER -1", -1, x.held(-1, 0, 7, 0));
        Check.due("FILTER 2", -1, x.held(2, 0, 7, 0));
        for (int far : FAR) {
            Check.due("SIZE " + far, -1, x.held(0, 0, far, 0));
            Check.due("what " + far, -1, x.held(0, 0, 0, far));
            Check.due("CELL " + far, -1, x.held(0, far, 0, 0));
            Check.due("FILTER " + far, -1, x.held(far, 0, 0, 0));
        }
    }

    private static void states() {
        Check.says(8, "A FILTER is NEW (0) till it RUNS first, RUNS (1), is WASHED (2), RESTS (3), is SHUT (4), or WORN OUT (5).");
        ClogHouse x = new ClogHouse();
        x.filter();
        Check.due("NEW", 0, x.told(0, 0));
        x.hours(5);
        Check.due("without CELLS it never RUNS", 0, x.told(0, 0));
        x.cell(0, 5, 5);
        Check.due("NEW till the next HOUR", 0, x.told(0, 0));
        x.hours(1);
        Check.due("RUNS", 1, x.told(0, 0));
        Check.ruled(x, 0, "w:1");
        x.hours(1);
        Check.due("is WASHED", 2, x.told(0, 0));
        Check.ruled(x, 0, "r:1");
        x.hours(1);
        Check.due("RESTS", 3, x.told(0, 0));
        x.hand(0, 1);
        Check.due("is SHUT", 4, x.told(0, 0));
        x.hand(0, 2);
        Check.due("NEW, as it goes on", 0, x.told(0, 0));
        x.set(0, 2, 1);
        Check.ruled(x, 0, "w:1");
        x.hours(1);
        Check.due("WORN OUT", 5, x.told(0, 0));
    }

    private static void toldOfNew() {
        Check.says(8, "Of a FILTER: 0 what it is, 1 HOURS since, 2 WASHES made, 3 CAKE, 4 BED (NONE: shut), 5 CELLS, 6 the share of the latest HOUR, 7 the PUSH of it (0 if it did not RUN), 8 GRAINS that came OUT of it in it.");
        ClogHouse x = new ClogHouse();
        x.filter();
        for (int what = 0; what <= 8; what++) {
            Check.due("a new one: told(0, " + what + ")", 0, x.told(0, what));
        }
        Check.says(8, "NONE for others.");
        Check.due("what -1", -1, x.told(0, -1));
        Check.due("what 9", -1, x.told(0, 9));
        Check.due("FILTER -1", -1, x.told(-1, 0));
        Check.due("FILTER 1", -1, x.told(1, 0));
        Check.due("FILTER 8", -1, x.told(8, 0));
        for (int far : FAR) {
            Check.due("what " + far, -1, x.told(0, far));
            Check.due("FILTER " + far, -1, x.told(far, 0));
        }
    }

    private static void toldCakeAndBed() {
        Check.says(8, "BED: the sum of RESIST of CELLS.");
        ClogHouse x = new ClogHouse();
        x.filter();
        int sum = 0;
        for (int i = 1; i <= 10; i++) {
            x.cell(0, 2 * i, 5);
            sum += RESISTS[2 * i - 1];
            Check.due("of " + i, sum, x.told(0, 4));
        }
        Check.says(8, "4 BED (NONE: shut)");
        ClogHouse y = catching(5, 10);
        y.come(7, 49);
        y.hours(1);
        Check.due("not shut yet", 25 + 10000, y.told(0, 4));
        y.come(7, 1);
        y.hours(1);
        Check.due("its lower CELL is shut", -1, y.told(0, 4));
        Check.says(8, "CAKE: GRAINS that lie on the top.");
        ClogHouse z = one(5, 1000);
        z.come(5, 3);
        z.come(6, 20);
        z.come(7, 100);
        z.hours(1);
        Check.due("of all SIZES", 123, z.told(0, 3));
        Check.due("none of them is in the CELL", 0, z.celled(0, 0, 4));
    }

    private static void toldLatest() {
        Check.says(8, "6 the share of the latest HOUR, 7 the PUSH of it (0 if it did not RUN), 8 GRAINS that came OUT of it in it.");
        String[] texts = {"", "w:1", "r:1"};
        for (String text : texts) {
            ClogHouse x = one(10, 1000);
            x.come(0, 100);
            x.hours(1);
            Check.due("share", 10, x.told(0, 6));
            Check.due("PUSH: 10 * 100 / 100", 10, x.told(0, 7));
            Check.due("OUT: 100 less 100 * 20 / 1,000", 98, x.told(0, 8));
            if (text.isEmpty()) {
                x.hand(0, 1);
            } else {
                Check.ruled(x, 0, text);
            }
            x.hours(1);
            Check.due("<" + text + "> did not RUN: share", 0, x.told(0, 6));
            Check.due("<" + text + "> did not RUN: PUSH", 0, x.told(0, 7));
            Check.due("<" + text + "> did not RUN: OUT", 0, x.told(0, 8));
        }
    }

    private static void pushBounds() {
        Check.says(9, "PUSH with a stream (1 .. 1,000), as it is.");
        ClogHouse x = one(10, 1000);
        Check.due("1: 100 / 100", 1, x.push(0, 1));
        Check.due("1,000", 1000, x.push(0, 1000));
        x.hand(0, 1);
        Check.due("as it is, though it is SHUT", 1000, x.push(0, 1000));
        Check.says(9, "NONE: none, no such ones.");
        Check.due("0", -1, x.push(0, 0));
        Check.due("-1", -1, x.push(0, -1));
        Check.due("1,001", -1, x.push(0, 1001));
        Check.due("FILTER -1", -1, x.push(-1, 1));
        Check.due("FILTER 1", -1, x.push(1, 1));
        for (int far : FAR) {
            Check.due("stream " + far, -1, x.push(0, far));
            Check.due("FILTER " + far, -1, x.push(far, 1));
        }
    }

    private static void pushLeast() {
        Check.says(9, "PUSH of a FILTER with a stream Q: the least p of 0 .. 100,000 such that p is at least Q times (BED and CAKE times (100 and p by PRESS, cut) by 100, cut), by 100, cut;");
        ClogHouse x = one(20, 1000);
        Check.due("3 * 25 / 100, cut", 0, x.push(0, 3));
        Check.due("4 * 25 / 100", 1, x.push(0, 4));
        Check.due("7 * 25 / 100, cut", 1, x.push(0, 7));
        ClogHouse y = one(1, 1000);
        Check.due("999", 99900, y.push(0, 999));
        Check.due("100,000 is the most", 100000, y.push(0, 1000));
        // BED 2,500 and a CAKE of 199: 199 * (100 + p / 100) / 100 is cut by itself
        ClogHouse z = one(2, 1000);
        z.come(7, 199);
        z.hours(1);
        Check.due("1 * (2,500 + 199) / 100, cut", 26, z.push(0, 1));
        Check.due("2 * (2,500 + 199) / 100, cut", 53, z.push(0, 2));
        Check.due("4 * (2,500 + 199 * 101 / 100) / 100", 108, z.push(0, 4));
        Check.due("100 * (2,500 + 199 * 127 / 100) / 100", 2752, z.push(0, 100));
        z.set(0, 0, 3);
        for (int q = 1; q <= 60; q++) {
            Check.due("by trying each p, stream " + q, leastOf(2500, 199, 3, q), z.push(0, q));
        }
    }

    static long leastOf(long bed, long cake, long press, long q) {
        for (long p = 0; p <= 100000; p++) {
            if (p >= q * (bed + cake * (100 + p / press) / 100) / 100) {
                return p;
            }
        }
        return -1;
    }

    private static void pushNone() {
        Check.says(9, "none, if a CELL is shut or there is no such p.");
        ClogHouse x = one(1, 1000);
        x.cell(0, 20, 1000);
        Check.due("997 * 10,025 / 100", 99949, x.push(0, 997));
        Check.due("998 * 10,025 / 100 is 100,049", -1, x.push(0, 998));
        x.cell(0, 3, 1000);
        Check.due("897 * 11,136 / 100", 99889, x.push(0, 897));
        Check.due("898 * 11,136 / 100 is 100,001", -1, x.push(0, 898));
        ClogHouse y = caked();
        y.set(0, 0, 1);
        Check.due("each p asks for 140 more", -1, y.push(0, 10));
        ClogHouse z = catching(5, 10);
        z.come(7, 50);
        z.hours(1);
        Check.due("a CELL is shut", -1, z.push(0, 1));
    }
}
