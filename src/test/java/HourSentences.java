/** Promise 18, parts (3) to (5) of an HOUR, and promises 19 to 22, a test for each sentence. */
final class HourSentences {
    private static final int[] FAR = {Integer.MIN_VALUE, Integer.MIN_VALUE + 1, -1000000, 1000000, Integer.MAX_VALUE};

    private HourSentences() {
    }

    static void all() {
        weights();
        weightOfCakes();
        leftOver();
        shutCell();
        grainsLeftOver();
        noShare();
        shareAboveNone();
        noPush();
        aheadOfTheGrains();
        onTheCake();
        heldCut();
        heldShares();
        asTheHourBegan();
        beyondTheLast();
        hoursSince();
        handChanged();
        handShut();
        handBounds();
        historyOfAll();
        historyBounds();
        historyOfTheLast();
        breaks();
        breaksNever();
        ripe();
        ripeWithGrains();
    }

    private static void shares(ClogHouse x, int... want) {
        for (int f = 0; f < want.length; f++) {
            Check.due("share of FILTER " + f, want[f], x.told(f, 6));
        }
    }

    private static ClogHouse beds(int q, int... pores) {
        ClogHouse x = new ClogHouse();
        for (int pore : pores) {
            StreamSentences.bed(x, pore, 1000);
        }
        x.stream(q);
        return x;
    }

    private static void weights() {
        Check.says(18, "(3) Of those that RUN: shares of Q: each 1,000,000 by (BED and CAKE, 1 at least), cut, as weight; Q times weight by all weights, cut;");
        ClogHouse x = beds(1000, 3, 6);
        x.hours(1);
        // 1,000,000 by 1,111 is 900, by 277 is 3,610
        shares(x, 199 + 1, 800);
        ClogHouse y = beds(1000, 20, 1, 10);
        Check.ruled(y, 2, "r:1");
        y.hours(1);
        // 40,000 and 100: the third RESTS
        shares(y, 997 + 1, 2, 0);
        y.rule(2, ClogHouse.NONE);
        y.hours(1);
        // 40,000, 100 and 10,000
        shares(y, 798 + 1, 1 + 1, 199);
        ClogHouse z = beds(1000, 7);
        z.hours(1);
        shares(z, 1000);
    }

    /** FILTER 0 with BED 10,000 and this CAKE, and a clean one of BED 10,000: shares of 1,000. */
    private static ClogHouse besideCake(int cake) {
        ClogHouse x = beds(1, 1);
        x.set(0, 0, 1000);
        x.come(7, 9999);
        x.hours(cake / 9999);
        x.come(7, cake % 9999);
        x.hours(1);
        Check.due("CAKE", cake, x.told(0, 3));
        StreamSentences.bed(x, 1, 1000);
        x.stream(1000);
        x.come(7, 0);
        x.hours(1);
        return x;
    }

    private static void weightOfCakes() {
        Check.says(18, "each 1,000,000 by (BED and CAKE, 1 at least), cut, as weight;");
        // 500,000 weighs 2, 500,001 weighs 1, 1,000,001 weighs 0; the clean one 100
        shares(besideCake(490000), 19 + 1, 980);
        shares(besideCake(490001), 9 + 1, 990);
        shares(besideCake(990000), 9 + 1, 990);
        ClogHouse x = besideCake(990001);
        shares(x, 0, 1000);
        Check.due("weight 0, but no CELL of it is shut", 1, x.told(0, 0));
    }

    private static void leftOver() {
        Check.says(18, "what is left over goes by one each to the lowest ones with weight above 0.");
        ClogHouse x = beds(5, 10, 10, 10);
        x.hours(1);
        shares(x, 2, 2, 1);
        x.stream(1);
        x.hours(1);
        shares(x, 1, 0, 0);
        x.stream(3);
        x.hours(1);
        shares(x, 1, 1, 1);
        ClogHouse y = beds(7, 10, 10, 10, 10, 10, 10, 10, 10);
        y.hours(1);
        shares(y, 1, 1, 1, 1, 1, 1, 1, 0);
        ClogHouse z = beds(5, 10, 10, 10, 10);
        z.hand(0, 1);
        Check.ruled(z, 2, "r:1");
        z.hours(1);
        shares(z, 0, 3, 0, 2);
        ClogHouse lowest = shutFirst();
        lowest.stream(5);
        lowest.hours(1);
        shares(lowest, 0, 3, 2);
    }

    /** FILTER 0 has a shut CELL, with 50 GRAINS in it; FILTERS 1 and 2 are clean. */
    private static ClogHouse shutFirst() {
        ClogHouse x = new ClogHouse();
        StreamSentences.catching(x, 5, 10);
        x.stream(10);
        x.come(7, 50);
        x.hours(1);
        x.come(7, 0);
        Check.due("it RUNS still", 1, x.told(0, 0));
        StreamSentences.bed(x, 10, 1000);
        StreamSentences.bed(x, 10, 1000);
        return x;
    }

    private static void shutCell() {
        Check.says(18, "A FILTER with a shut CELL has weight 0, and is SHUT behind this HOUR.");
        ClogHouse x = shutFirst();
        x.come(7, 9);
        x.hours(1);
        shares(x, 0, 5, 5);
        Check.due("it is SHUT", 4, x.told(0, 0));
        Check.due("the others RUN", 1, x.told(1, 0));
        Check.due("PUSH", 0, x.told(0, 7));
        Check.due("it holds as many as before", 50, x.celled(0, 1, 4));
        Check.due("all went through the others", 9, x.history(2, 7, 1));
        Check.due("those that RAN in this HOUR", 3, x.count(2));
        x.hours(1);
        Check.due("SHUT, it does not RUN", 2, x.count(2));
        ClogHouse y = shutFirst();
        Check.ruled(y, 0, "r:1");
        y.hours(1);
        Check.due("one that RESTS with a shut CELL is not SHUT", 3, y.told(0, 0));
        Check.ruled(y, 0, "c:1");
        y.hours(1);
        Check.due("CHANGED ahead, it RUNS on", 1, y.told(0, 0));
        Check.due("with a share", true, y.told(0, 6) > 0);
    }

    private static void grainsLeftOver() {
        Check.says(18, "GRAINS of each SIZE: how many times its share of Q by Q, cut; what is left over by one each to the lowest with a share above 0.");
        ClogHouse x = beds(10, 10, 5);
        x.grain(0, 0, 0);
        x.grain(3, 0, 0);
        x.come(0, 9);
        x.hours(1);
        shares(x, 8, 2);
        Check.due("9 * 8 / 10, and one", 8, x.told(0, 8));
        Check.due("9 * 2 / 10", 1, x.told(1, 8));
        x.come(3, 9);
        x.hours(1);
        Check.due("of each SIZE", 16, x.told(0, 8));
        Check.due("of each SIZE", 2, x.told(1, 8));
        x.come(0, 1);
        x.come(3, 0);
        x.hours(1);
        Check.due("one GRAIN", 1, x.told(0, 8));
        Check.due("one GRAIN", 0, x.told(1, 8));
        ClogHouse y = beds(8, 10, 10, 10, 10, 10, 10, 10, 10);
        y.grain(0, 0, 0);
        y.come(0, 13);
        y.hours(1);
        for (int f = 0; f < 8; f++) {
            Check.due("13 of 8, FILTER " + f, f < 5 ? 2 : 1, y.told(f, 8));
        }
        ClogHouse z = shutFirst();
        z.come(7, 9);
        z.stream(2);
        z.hours(1);
        Check.due("none to the lowest without a share", 50, z.celled(0, 1, 4));
        Check.due("9 / 2, and one", 5, z.told(1, 8));
        Check.due("9 / 2", 4, z.told(2, 8));
        ClogHouse between = beds(9, 1, 1, 20, 20);
        between.grain(0, 0, 0);
        between.come(0, 8);
        between.hours(1);
        // weights 100, 100, 40,000 and 40,000; of 8 GRAINS 0, 3 and 3, and two are left over
        shares(between, 0 + 1, 0, 4, 4);
        Check.due("one to the lowest", 1, between.told(0, 8));
        Check.due("none to one with weight, but without a share", 0, between.told(1, 8));
        Check.due("one to the next lowest with a share", 4, between.told(2, 8));
        Check.due("none is left for the last", 3, between.told(3, 8));
        ClogHouse most = beds(1000, 20, 20);
        most.grain(7, 0, 0);
        most.come(7, 9999);
        most.hours(1);
        Check.due("9,999 * 500 / 1,000, and one", 5000, most.told(0, 8));
        Check.due("9,999 * 500 / 1,000", 4999, most.told(1, 8));
    }

    private static void noShare() {
        Check.says(18, "If none has a share, all GRAINS go ROUND.");
        ClogHouse x = new ClogHouse();
        x.stream(10);
        x.come(0, 9999);
        x.come(7, 3);
        x.hours(1);
        Check.due("there is no FILTER", 9999, x.history(1, 0, 2));
        Check.due("of each SIZE", 3, x.history(1, 7, 2));
        x.filter();
        x.hours(1);
        Check.due("none has CELLS", 3, x.history(2, 7, 2));
        x.cell(0, 5, 1000);
        Check.ruled(x, 0, "r:1");
        x.hours(1);
        Check.due("it RESTS", 3, x.history(3, 7, 2));
        Check.ruled(x, 0, "w:1");
        x.hours(1);
        Check.due("it is WASHED", 3, x.history(4, 7, 2));
        x.hand(0, 1);
        x.hours(1);
        Check.due("it is SHUT", 3, x.history(5, 7, 2));
        Check.due("none came OUT", 0, x.led(7, 4));
        Check.due("ROUND in all", 15, x.led(7, 5));
        ClogHouse y = new ClogHouse();
        StreamSentences.catching(y, 5, 10);
        y.stream(10);
        y.come(7, 50);
        y.hours(2);
        Check.due("its CELL is shut", 50, y.history(2, 7, 2));
        Check.due("it took none of them", 50, y.celled(0, 1, 4));
    }

    private static void shareAboveNone() {
        Check.says(18, "(4) Each one that RUNS with a share above 0, rising: PUSH with its share");
        ClogHouse x = beds(1, 1, 1);
        x.come(7, 10);
        x.hours(1);
        shares(x, 1, 0);
        Check.due("PUSH: 1 * 10,000 / 100", 100, x.told(0, 7));
        Check.due("without a share no PUSH", 0, x.told(1, 7));
        Check.due("nor GRAINS", 0, x.told(1, 3));
        Check.due("but it RUNS", 1, x.told(1, 0));
        ClogHouse y = beds(1000, 10, 10);
        y.hours(1);
        Check.due("its share alone: 500 * 100 / 100", 500, y.told(0, 7));
        Check.due("of each", 500, y.told(1, 7));
    }

    private static void noPush() {
        Check.says(18, "if there is none it is SHUT behind this HOUR, and its GRAINS go ROUND.");
        ClogHouse x = beds(100, 5);
        x.come(7, 1000);
        x.hours(1);
        StreamSentences.bed(x, 5, 1000);
        x.set(0, 0, 1);
        x.come(7, 100);
        x.hours(1);
        shares(x, 23, 77);
        Check.due("its CAKE presses without end: SHUT", 4, x.told(0, 0));
        Check.due("PUSH", 0, x.told(0, 7));
        Check.due("nothing lay down on it", 1000, x.told(0, 3));
        Check.due("its GRAINS go ROUND", 23, x.history(2, 7, 2));
        Check.due("the other RUNS", 1, x.told(1, 0));
        Check.due("with its own GRAINS", 77, x.told(1, 3));
        ClogHouse y = beds(1000, 1);
        y.come(0, 10);
        y.hours(1);
        Check.due("100,000 is a PUSH", 100000, y.told(0, 7));
        Check.due("it RUNS", 1, y.told(0, 0));
        ClogHouse z = beds(1000, 1);
        z.cell(0, 20, 1000);
        z.come(0, 10);
        z.hours(1);
        Check.due("100,250 is none: SHUT", 4, z.told(0, 0));
        Check.due("its GRAINS go ROUND", 10, z.history(1, 0, 2));
        Check.due("none is held", 0, z.led(0, 1));
        Check.due("HOURS since: it RAN in this HOUR", 1, z.told(0, 1));
        z.hand(0, 2);
        Check.ruled(z, 0, "r:1");
        z.hours(1);
        Check.due("behind that HOUR alone: it RESTS then", 3, z.told(0, 0));
    }

    private static void aheadOfTheGrains() {
        Check.says(18, "PUSH with its share, ahead of the GRAINS;");
        ClogHouse x = beds(10, 5);
        x.come(7, 1000);
        x.hours(1);
        Check.due("10 * 400 / 100, the CAKE comes behind", 40, x.told(0, 7));
        Check.due("now it would be more", 141, x.push(0, 10));
        x.hours(1);
        Check.due("and is so in the next HOUR", 141, x.told(0, 7));
        ClogHouse y = new ClogHouse();
        StreamSentences.catching(y, 5, 10);
        y.stream(10);
        y.come(7, 9999);
        y.hours(1);
        Check.due("its CELL is shut behind it: it RUNS", 1, y.told(0, 0));
        Check.due("10 * (25 + 400) / 100", 42, y.told(0, 7));
    }

    private static void onTheCake() {
        Check.says(18, "Else, of its GRAINS, those of a SIZE that is the first CELL's WIDTH or more lie down on the CAKE.");
        for (int pore = 1; pore <= 9; pore++) {
            ClogHouse x = beds(10, pore);
            for (int size = 0; size <= 7; size++) {
                x.grain(size, 0, 0);
                x.come(size, 1 << size);
            }
            x.hours(1);
            int cake = 0;
            for (int size = pore; size <= 7; size++) {
                cake += 1 << size;
            }
            Check.due("CAKE with PORE " + pore, cake, x.told(0, 3));
            Check.due("the others come OUT", 255 - cake, x.told(0, 8));
        }
        ClogHouse y = new ClogHouse();
        StreamSentences.bed(y, 5, 10);
        y.stream(10);
        y.grain(4, 0, 1000);
        y.come(4, 10);
        y.hours(1);
        Check.due("SIZE 4 with WIDTH 5: held", 10, y.held(0, 0, 4, 0));
        y.hours(1);
        Check.due("SIZE 4 with WIDTH 4: on the CAKE", 10, y.told(0, 3));
        Check.due("no more are held", 10, y.held(0, 0, 4, 0));
        ClogHouse z = new ClogHouse();
        StreamSentences.catching(z, 5, 1000);
        z.stream(10);
        z.come(7, 10);
        z.hours(1);
        Check.due("the first CELL's WIDTH alone", 0, z.told(0, 3));
    }

    private static int heldOf(int many, int size, int pore, int stick) {
        ClogHouse x = beds(10, pore);
        x.grain(size, 0, stick);
        x.come(size, many);
        x.hours(1);
        return x.held(0, 0, size, 0);
    }

    private static void heldCut() {
        Check.says(18, "The others go from CELL to CELL: HELD in a CELL are so many times SHARE by 1,000, cut;");
        Check.due("3 * 333 / 1,000", 0, heldOf(3, 7, 10, 1000));
        Check.due("4 * 333 / 1,000", 1, heldOf(4, 7, 10, 1000));
        Check.due("6 * 333 / 1,000", 1, heldOf(6, 7, 10, 1000));
        Check.due("7 * 333 / 1,000", 2, heldOf(7, 7, 10, 1000));
        Check.due("1 * 999 / 1,000", 0, heldOf(1, 0, 1, 999));
        Check.due("1 * 1,000 / 1,000", 1, heldOf(1, 0, 1, 1000));
        Check.due("9,999 * 999 / 1,000", 9989, heldOf(9999, 7, 8, 999));
        Check.due("none come", 0, heldOf(0, 7, 8, 1000));
        ClogHouse x = beds(10, 10);
        x.cell(0, 10, 1000);
        x.cell(0, 10, 1000);
        x.grain(5, 0, 1000);
        x.come(5, 100);
        x.hours(1);
        Check.due("from CELL to CELL: 100 * 200 / 1,000", 20, x.held(0, 0, 5, 0));
        Check.due("80 * 200 / 1,000", 16, x.held(0, 1, 5, 0));
        Check.due("64 * 200 / 1,000", 12, x.held(0, 2, 5, 0));
        Check.due("OUT", 52, x.told(0, 8));
    }

    private static void heldShares() {
        Check.says(18, "SHARE is 1,000, if the SIZE is WIDTH or more, else STICK by (WIDTH less SIZE), cut;");
        Check.due("200 / 1", 200, heldOf(1000, 7, 8, 200));
        Check.due("200 / 3, cut", 66, heldOf(1000, 7, 10, 200));
        Check.due("200 / 13, cut", 15, heldOf(1000, 7, 20, 200));
        Check.due("200 / 20", 10, heldOf(1000, 0, 20, 200));
        Check.due("19 / 20, cut", 0, heldOf(9999, 0, 20, 19));
        Check.due("20 / 20", 9, heldOf(9999, 0, 20, 20));
        Check.due("0 / 1", 0, heldOf(9999, 7, 8, 0));
        for (int pore = 5; pore <= 9; pore++) {
            ClogHouse x = new ClogHouse();
            StreamSentences.bed(x, 20, 1000);
            x.cell(0, pore, 1000);
            x.stream(10);
            x.grain(7, 0, 13);
            x.come(7, 1000);
            x.hours(1);
            Check.due("13 / 13", 1, x.held(0, 0, 7, 0));
            int below = pore <= 7 ? 999 : pore == 8 ? 999 * 13 / 1000 : 999 * 6 / 1000;
            Check.due("SIZE 7 with WIDTH " + pore, below, x.held(0, 1, 7, 0));
        }
    }

    private static void asTheHourBegan() {
        Check.says(18, "WIDTH as that CELL had it as the HOUR began.");
        ClogHouse x = new ClogHouse();
        StreamSentences.bed(x, 3, 1);
        x.stream(10);
        for (int size = 0; size <= 2; size++) {
            x.grain(size, 0, 1000);
            x.come(size, 9);
        }
        x.hours(1);
        Check.due("9 * 333 / 1,000: it narrows by 2", 2, x.held(0, 0, 0, 0));
        Check.due("9 * 500 / 1,000, as if it had not", 4, x.held(0, 0, 1, 0));
        Check.due("9 * 1,000 / 1,000", 9, x.held(0, 0, 2, 0));
        Check.due("nothing lies on the CAKE", 0, x.told(0, 3));
        ClogHouse y = beds(10, 20);
        y.cell(0, 3, 1);
        for (int size = 0; size <= 2; size++) {
            y.grain(size, 0, 19);
            y.come(size, 1000);
        }
        y.grain(2, 0, 9);
        y.hours(1);
        Check.due("SIZE 0 below: 1,000 * 6 / 1,000 shuts it", 6, y.held(0, 1, 0, 0));
        Check.due("SIZE 1 below: 999 * 9 / 1,000", 8, y.held(0, 1, 1, 0));
        Check.due("SIZE 2 below: 1,000 * 9 / 1,000", 9, y.held(0, 1, 2, 0));
    }

    private static void beyondTheLast() {
        Check.says(18, "What goes beyond the last CELL comes OUT.");
        ClogHouse x = beds(10, 10);
        x.come(0, 1000);
        x.come(5, 10);
        x.hours(1);
        Check.due("1,000 less 20, 10 less 0", 990, x.told(0, 8));
        Check.due("of SIZE 0", 980, x.history(1, 0, 1));
        Check.due("of SIZE 5", 10, x.history(1, 5, 1));
        Check.due("none goes ROUND", 0, x.history(1, 0, 2));
    }

    private static void hoursSince() {
        Check.says(18, "(5) HOURS since (0 at first) are one more for those that RAN or REST in this HOUR.");
        ClogHouse x = beds(1, 10, 10, 10, 10, 10);
        x.filter();
        Check.due("0 at first", 0, x.told(0, 1));
        Check.ruled(x, 2, "r:1");
        Check.ruled(x, 3, "w:1");
        x.hand(4, 1);
        x.hours(3);
        Check.due("it RAN", 3, x.told(0, 1));
        Check.due("it RAN without a share", 3, x.told(1, 1));
        Check.due("it RESTS", 3, x.told(2, 1));
        Check.due("it is WASHED", 0, x.told(3, 1));
        Check.due("it is SHUT", 0, x.told(4, 1));
        Check.due("it has no CELLS", 0, x.told(5, 1));
        x.hand(0, 1);
        x.hours(2);
        Check.due("SHUT behind HOURS in which it RAN", 3, x.told(0, 1));
        x.hand(0, 2);
        x.hours(1);
        Check.due("it goes on", 4, x.told(0, 1));
    }

    private static ClogHouse toHand() {
        ClogHouse x = beds(10, 5);
        x.come(3, 100);
        x.come(6, 30);
        Check.ruled(x, 0, "w:h=2?1;u:1000");
        x.grain(3, 2, 500);
        x.hours(3);
        x.rule(0, ClogHouse.NONE);
        x.hours(1);
        return x;
    }

    private static void handChanged() {
        Check.says(19, "By hand a FILTER is CHANGED (as above, but it is NEW then), or SHUT; or a SHUT one goes on (it is NEW then, with all that it holds).");
        ClogHouse x = toHand();
        int held3 = x.held(0, 0, 3, 0);
        int held6 = x.held(0, 0, 6, 0) + x.told(0, 3);
        Check.due("some are STUCK", true, x.held(0, 0, 3, 1) > 0);
        Check.due("WASHES made", 1, x.told(0, 2));
        Check.due("PORE", 6, x.celled(0, 0, 0));
        Check.due("CHANGED", true, x.hand(0, 0));
        Check.due("it is NEW", 0, x.told(0, 0));
        Check.due("CARRIED OFF", held3, x.led(3, 3));
        Check.due("its CAKE too", held6, x.led(6, 3));
        Check.due("nothing is held", 0, x.celled(0, 0, 4));
        Check.due("nothing is STUCK", 0, x.held(0, 0, 3, 1));
        Check.due("CAKE", 0, x.told(0, 3));
        Check.due("WASHES made", 0, x.told(0, 2));
        Check.due("HOURS since", 0, x.told(0, 1));
        Check.due("PORES as they were told", 5, x.celled(0, 0, 0));
        Check.due("CHANGED again", true, x.hand(0, 0));
        Check.due("CARRIED OFF only once", held3, x.led(3, 3));
        ClogHouse y = toHand();
        int digest = y.digest();
        Check.due("SHUT", true, y.hand(0, 1));
        Check.due("goes on", true, y.hand(0, 2));
        Check.due("it is NEW then", 0, y.told(0, 0));
        Check.due("with all that it holds", held3, y.held(0, 0, 3, 0));
        Check.due("and its CAKE", held6, y.held(0, 0, 6, 0) + y.told(0, 3));
        Check.due("and its HOURS since", 1, y.told(0, 1));
        Check.due("and its WASHES made", 1, y.told(0, 2));
        Check.due("nothing is CARRIED OFF", 0, y.led(3, 3));
        y.hours(1);
        Check.due("it RUNS", 1, y.told(0, 0));
        Check.due("digest was another", true, digest != y.digest());
        y.hand(0, 1);
        Check.due("a SHUT one is CHANGED, too", true, y.hand(0, 0));
        Check.due("it is NEW", 0, y.told(0, 0));
    }

    private static void handShut() {
        Check.says(19, "SHUT already (1), not SHUT (2).");
        String[] texts = {"", "w:1", "r:1"};
        for (String text : texts) {
            ClogHouse x = beds(10, 5);
            if (!text.isEmpty()) {
                Check.ruled(x, 0, text);
            }
            Check.due("NEW: not SHUT", false, x.hand(0, 2));
            x.hours(1);
            int is = x.told(0, 0);
            Check.due("not SHUT: " + is, false, x.hand(0, 2));
            Check.due("it is as it was", is, x.told(0, 0));
            Check.due("SHUT", true, x.hand(0, 1));
            Check.due("SHUT already", false, x.hand(0, 1));
            Check.due("it is SHUT", 4, x.told(0, 0));
            Check.due("goes on", true, x.hand(0, 2));
            Check.due("not SHUT any more", false, x.hand(0, 2));
            Check.due("a NEW one may be SHUT", true, x.hand(0, 1));
        }
        ClogHouse y = beds(1000, 1);
        y.cell(0, 1, 1000);
        y.hours(1);
        Check.due("SHUT behind an HOUR: already", false, y.hand(0, 1));
        Check.due("SHUT behind an HOUR: goes on", true, y.hand(0, 2));
    }

    private static void handBounds() {
        Check.says(19, "By hand: 0 CHANGED, 1 SHUT, 2 goes on. False: no such ones;");
        ClogHouse x = beds(10, 5);
        Check.due("what -1", false, x.hand(0, -1));
        Check.due("what 3", false, x.hand(0, 3));
        for (int what = 0; what <= 2; what++) {
            Check.due("FILTER -1", false, x.hand(-1, what));
            Check.due("FILTER 1", false, x.hand(1, what));
            Check.due("FILTER 8", false, x.hand(8, what));
            for (int far : FAR) {
                Check.due("FILTER " + far, false, x.hand(far, what));
            }
        }
        for (int far : FAR) {
            Check.due("what " + far, false, x.hand(0, far));
        }
        Check.due("it is NEW still", 0, x.told(0, 0));
        x.hand(0, 1);
        Check.due("SHUT: what -1", false, x.hand(0, -1));
        Check.due("SHUT: what 3", false, x.hand(0, 3));
        for (int far : FAR) {
            Check.due("SHUT: what " + far, false, x.hand(0, far));
        }
        Check.due("it is SHUT still", 4, x.told(0, 0));
    }

    private static void historyOfAll() {
        Check.says(20, "HISTORY of an HOUR: GRAINS of each SIZE that came, came OUT (of all), went ROUND.");
        ClogHouse x = beds(10, 10, 10);
        x.grain(2, 0, 0);
        x.come(2, 100);
        x.come(3, 7);
        x.hours(1);
        Check.due("came", 100, x.history(1, 2, 0));
        Check.due("came OUT of both", 100, x.history(1, 2, 1));
        Check.due("went ROUND", 0, x.history(1, 2, 2));
        Check.due("of another SIZE", 7, x.history(1, 3, 0));
        Check.due("of a SIZE that did not come", 0, x.history(1, 4, 0));
        x.hand(0, 1);
        x.hand(1, 1);
        x.come(2, 50);
        x.hours(1);
        Check.due("came", 50, x.history(2, 2, 0));
        Check.due("came OUT", 0, x.history(2, 2, 1));
        Check.due("went ROUND", 50, x.history(2, 2, 2));
        Check.due("the HOUR ahead is as it was", 100, x.history(1, 2, 1));
    }

    private static void historyBounds() {
        Check.says(20, "HISTORY of an HOUR (1 .. NOW) and SIZE: 0 came, 1 came OUT, 2 went ROUND. NONE: no such ones.");
        ClogHouse x = beds(10, 10);
        x.come(0, 5);
        Check.due("no HOUR yet", -1, x.history(1, 0, 0));
        x.hours(3);
        Check.due("HOUR 1", 5, x.history(1, 0, 0));
        Check.due("NOW", 5, x.history(3, 0, 0));
        Check.due("HOUR 0", -1, x.history(0, 0, 0));
        Check.due("HOUR -1", -1, x.history(-1, 0, 0));
        Check.due("HOUR 4", -1, x.history(4, 0, 0));
        Check.due("SIZE 7", 0, x.history(3, 7, 0));
        Check.due("SIZE -1", -1, x.history(2, -1, 0));
        Check.due("SIZE 8", -1, x.history(2, 8, 0));
        Check.due("what -1", -1, x.history(2, 0, -1));
        Check.due("what 3", -1, x.history(2, 0, 3));
        for (int far : FAR) {
            Check.due("HOUR " + far, -1, x.history(far, 0, 0));
            Check.due("SIZE " + far, -1, x.history(1, far, 0));
            Check.due("what " + far, -1, x.history(1, 0, far));
        }
    }

    private static void historyOfTheLast() {
        Check.says(20, "HISTORY of an HOUR (1 .. NOW)");
        ClogHouse x = beds(10, 20);
        x.grain(0, 0, 0);
        x.come(0, 5);
        for (int i = 1; i <= 9; i++) {
            x.hours(200);
        }
        x.hours(198);
        x.come(0, 6);
        x.hours(1);
        x.come(0, 7);
        x.hours(1);
        int[] many = {5, 5, 6, 7};
        int[] hours = {1, 1998, 1999, 2000};
        for (int i = 0; i < 4; i++) {
            Check.due("came in " + hours[i], many[i], x.history(hours[i], 0, 0));
            Check.due("OUT in " + hours[i], many[i], x.history(hours[i], 0, 1));
            Check.due("ROUND in " + hours[i], 0, x.history(hours[i], 0, 2));
        }
        Check.due("HOUR 2,001", -1, x.history(2001, 0, 0));
        Check.due("more than 5", 1999, x.breaks(0, 5));
        Check.due("more than 6: in the last", 2000, x.breaks(0, 6));
        Check.due("more than 7", -1, x.breaks(0, 7));
    }

    private static void breaks() {
        Check.says(21, "BREAKS THROUGH: the first HOUR in which more than so many GRAINS of a SIZE or greater ones came OUT or went ROUND.");
        ClogHouse x = beds(10, 20);
        x.grain(3, 0, 0);
        x.come(3, 10);
        x.hours(2);
        x.come(3, 11);
        x.hours(2);
        Check.due("more than 9", 1, x.breaks(3, 9));
        Check.due("not more than 10 in the first", 3, x.breaks(3, 10));
        Check.due("of a lower SIZE", 3, x.breaks(0, 10));
        Check.due("of a greater SIZE alone", -1, x.breaks(4, 0));
        Check.says(21, "BREAKS THROUGH: more than m of a SIZE or greater ones.");
        x.hand(0, 1);
        x.come(3, 5);
        x.come(7, 7);
        x.hours(1);
        Check.due("went ROUND: 5 and 7", 5, x.breaks(3, 11));
        Check.due("7 alone", 5, x.breaks(7, 6));
        Check.due("7 alone, from 4 on", 5, x.breaks(4, 6));
        Check.due("7 is not more than 7", -1, x.breaks(4, 7));
        ClogHouse y = beds(100, 5);
        y.come(7, 1000);
        y.hours(1);
        StreamSentences.bed(y, 5, 1000);
        y.set(0, 0, 1);
        y.grain(0, 0, 0);
        y.come(7, 0);
        y.come(0, 100);
        y.hours(1);
        Check.due("OUT", 77, y.history(2, 0, 1));
        Check.due("ROUND", 23, y.history(2, 0, 2));
        Check.due("OUT and ROUND together", 2, y.breaks(0, 99));
        Check.due("not more", -1, y.breaks(0, 100));
    }

    private static void breaksNever() {
        Check.says(21, "NONE: never, no such SIZE, m below 0.");
        ClogHouse x = new ClogHouse();
        Check.due("no HOUR yet", -1, x.breaks(0, 0));
        x.stream(1);
        for (int size = 0; size <= 7; size++) {
            x.come(size, 9999);
        }
        x.hours(1);
        Check.due("all of them", 1, x.breaks(0, 8 * 9999 - 1));
        Check.due("never", -1, x.breaks(0, 8 * 9999));
        Check.due("never", -1, x.breaks(0, Integer.MAX_VALUE));
        Check.due("m 0", 1, x.breaks(7, 0));
        Check.due("m -1", -1, x.breaks(0, -1));
        Check.due("m far below 0", -1, x.breaks(0, Integer.MIN_VALUE));
        Check.due("SIZE -1", -1, x.breaks(-1, 0));
        Check.due("SIZE 8", -1, x.breaks(8, 0));
        for (int far : FAR) {
            Check.due("SIZE " + far, -1, x.breaks(far, 0));
        }
    }

    private static void ripe() {
        Check.says(22, "RIPE: the BEST HOUR of a FILTER. NONE: none, no such one.");
        ClogHouse x = beds(10, 20, 20);
        Check.due("none yet", -1, x.ripe(0));
        Check.due("FILTER -1", -1, x.ripe(-1));
        Check.due("FILTER 2", -1, x.ripe(2));
        for (int far : FAR) {
            Check.due("FILTER " + far, -1, x.ripe(far));
        }
        Check.says(22, "BEST HOUR of a FILTER: that in which the fewest came OUT of it while it RAN with some GRAINS (of several the first): RIPE.");
        x.grain(0, 0, 0);
        int[] many = {20, 10, 10, 4, 12, 4, 3};
        int[] best = {1, 2, 2, 4, 4, 4, 4};
        for (int i = 0; i < many.length; i++) {
            x.come(0, many[i]);
            x.hours(1);
            Check.due("HOUR " + (i + 1) + " with " + many[i], best[i], x.ripe(0));
        }
        // of 3 GRAINS 2 came to FILTER 0, as of 4, and 1 to the other
        Check.due("of the other", 7, x.ripe(1));
        x.come(0, 1);
        x.hours(1);
        Check.due("one GRAIN, to FILTER 0", 8, x.ripe(0));
        Check.due("none to the other: it RAN without", 7, x.ripe(1));
    }

    private static void ripeWithGrains() {
        Check.says(22, "while it RAN with some GRAINS");
        ClogHouse x = beds(10, 5);
        x.hours(3);
        Check.due("it RAN without GRAINS", -1, x.ripe(0));
        x.come(0, 1000);
        Check.ruled(x, 0, "r:1");
        x.hours(1);
        Check.due("it did not RUN", -1, x.ripe(0));
        x.rule(0, ClogHouse.NONE);
        x.hours(1);
        Check.due("it RAN with some", 5, x.ripe(0));
        x.come(0, 0);
        x.hours(1);
        Check.due("none came OUT, but it RAN without", 5, x.ripe(0));
        x.come(7, 10);
        x.hours(1);
        Check.due("none came OUT of some", 7, x.ripe(0));
        x.hours(1);
        Check.due("the first of such", 7, x.ripe(0));
        x.hand(0, 0);
        Check.due("CHANGED, its BEST HOUR stays", 7, x.ripe(0));
        x.hours(1);
        Check.due("and is the first of such", 7, x.ripe(0));
    }
}
