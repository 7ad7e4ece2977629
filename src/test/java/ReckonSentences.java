/** Promises 23 to 31: drops, LAYERS, CHANGES and GAUGES, a test for each sentence. */
final class ReckonSentences {
    private static final int[] FAR = {Integer.MIN_VALUE, Integer.MIN_VALUE + 1, -2000000, 2000000, Integer.MAX_VALUE};

    private ReckonSentences() {
    }

    static void all() {
        shareParts();
        shareBounds();
        dropsLeast();
        dropsBounds();
        layerBounds();
        orderHours();
        orderOut();
        orderOfGreatCakes();
        orderBest();
        orderOfWhole();
        orderAlone();
        orderBounds();
        costBounds();
        costAges();
        cheapestSums();
        cheapestFirst();
        cheapestBounds();
        gaugeBounds();
        backBounds();
        backKnown();
        barred();
    }

    private static void share(int n, int k, int d, long upper, long lower) {
        ClogHouse x = new ClogHouse();
        String call = "share(" + n + ", " + k + ", " + d + ", ";
        Check.due(call + "0)", upper, x.share(n, k, d, 0));
        Check.due(call + "1)", lower, x.share(n, k, d, 1));
    }

    private static void shareParts() {
        Check.says(23, "FALSE SHARE of a TEST: of n drops (1 .. 60) k are bad; d are drawn: the part of all ways to draw in which none is bad, as two numbers without a common part.");
        share(1, 0, 0, 1, 1);
        share(1, 0, 1, 1, 1);
        share(1, 1, 0, 1, 1);
        share(1, 1, 1, 0, 1);
        share(4, 2, 2, 1, 6);
        share(6, 2, 2, 2, 5);
        share(10, 3, 7, 1, 120);
        share(10, 3, 8, 0, 1);
        share(60, 0, 60, 1, 1);
        share(60, 0, 30, 1, 1);
        share(60, 60, 0, 1, 1);
        share(60, 60, 1, 0, 1);
        share(60, 1, 60, 0, 1);
        share(60, 1, 59, 1, 60);
        share(60, 1, 30, 1, 2);
        share(60, 30, 30, 1, 118264581564861424L);
        share(60, 29, 30, 1, 3814986502092304L);
        share(60, 30, 31, 0, 1);
        share(60, 2, 30, 29, 118);
    }

    private static void shareBounds() {
        Check.says(23, "FALSE SHARE: the upper number (0), the lower one (1). NONE: out of bounds (n 1 .. 60, k, d 0 .. n).");
        share(60, 60, 60, 0, 1);
        share(0, 0, 0, -1, -1);
        share(-1, 0, 0, -1, -1);
        share(61, 0, 0, -1, -1);
        share(5, -1, 0, -1, -1);
        share(5, 6, 0, -1, -1);
        share(5, 5, 0, 1, 1);
        share(5, 0, -1, -1, -1);
        share(5, 0, 6, -1, -1);
        share(5, 0, 5, 1, 1);
        for (int far : FAR) {
            share(far, 0, 0, -1, -1);
            share(far, far, far, -1, -1);
            share(5, far, 0, -1, -1);
            share(5, 0, far, -1, -1);
            Check.due("what " + far, -1, new ClogHouse().share(5, 1, 1, far));
        }
        Check.due("what -1", -1, new ClogHouse().share(5, 1, 1, -1));
        Check.due("what 2", -1, new ClogHouse().share(5, 1, 1, 2));
    }

    private static void drops(int n, int k, int m, int want) {
        Check.due("drops(" + n + ", " + k + ", " + m + ")", want, new ClogHouse().drops(n, k, m));
    }

    private static void dropsLeast() {
        Check.says(24, "FEWEST drops to draw so that this part is at most one by m: the least d of 0 .. n (there may be none).");
        drops(10, 1, 1, 0);
        drops(10, 1, 2, 5);
        drops(10, 1, 5, 8);
        drops(10, 1, 6, 9);
        drops(10, 1, 10, 9);
        drops(10, 1, 11, 10);
        drops(10, 0, 1, 0);
        drops(10, 0, 2, -1);
        drops(10, 10, 1, 0);
        drops(10, 10, 2, 1);
        drops(4, 2, 6, 2);
        drops(4, 2, 7, 3);
        drops(1, 1, 2, 1);
        drops(1, 0, 1000000, -1);
        drops(60, 1, 60, 59);
        drops(60, 1, 61, 60);
        drops(60, 60, 1000000, 1);
        drops(60, 30, 1000000, 16);
    }

    private static void dropsBounds() {
        Check.says(24, "FEWEST drops, m 1 .. 1,000,000. NONE: none, out of bounds.");
        drops(5, 5, 1000000, 1);
        drops(5, 5, 1000001, -1);
        drops(5, 5, 0, -1);
        drops(5, 5, -1, -1);
        drops(0, 0, 1, -1);
        drops(-1, 0, 1, -1);
        drops(61, 1, 1, -1);
        drops(5, 6, 1, -1);
        drops(5, -1, 1, -1);
        for (int far : FAR) {
            drops(far, 1, 1, -1);
            drops(5, far, 1, -1);
            drops(5, 5, far, -1);
        }
    }

    private static void layerBounds() {
        Check.says(25, "LAYERS (6 at most): PORE, TAKE.");
        ClogHouse x = new ClogHouse();
        Check.due("PORE 1", 0, x.layer(1, 5));
        Check.due("PORE 20", 1, x.layer(20, 5));
        Check.due("TAKE 1", 2, x.layer(5, 1));
        Check.due("TAKE 1,000", 3, x.layer(5, 1000));
        Check.says(25, "A LAYER: its number. NONE: out of bounds");
        Check.due("PORE 0", -1, x.layer(0, 5));
        Check.due("PORE 21", -1, x.layer(21, 5));
        Check.due("TAKE 0", -1, x.layer(5, 0));
        Check.due("TAKE 1,001", -1, x.layer(5, 1001));
        for (int far : FAR) {
            Check.due("PORE " + far, -1, x.layer(far, 5));
            Check.due("TAKE " + far, -1, x.layer(5, far));
        }
        Check.due("four", 4, x.count(6));
        Check.says(25, "there are six.");
        Check.due("the fifth", 4, x.layer(5, 5));
        Check.due("the sixth", 5, x.layer(5, 5));
        Check.due("a seventh", -1, x.layer(5, 5));
        Check.due("six", 6, x.count(6));
        x.stream(10);
        Check.due("all six are in the ORDER", 5, x.order(0, 5));
    }

    /** LAYERS of PORE 1 with these TAKES, and so many GRAINS of SIZE 0 an HOUR: the top one holds all, till it is shut. */
    private static ClogHouse layers(int many, int... takes) {
        ClogHouse x = new ClogHouse();
        for (int take : takes) {
            x.layer(1, take);
        }
        x.stream(1);
        x.grain(0, 0, 1000);
        x.come(0, many);
        return x;
    }

    private static void orderHours() {
        Check.says(26, "that in which the most HOURS (100 at most) go by ahead of the first in which GRAINS come OUT or go ROUND, more than m in one HOUR;");
        int[] takes = {1, 2, 50, 99, 100, 101, 1000};
        for (int take : takes) {
            Check.due("shut behind " + take, Math.min(100, take), layers(1, take).order(0, -1));
        }
        Check.due("2 an HOUR into 5", 3, layers(2, 5).order(0, -1));
        Check.due("2 that go ROUND are more than 1", 3, layers(2, 5).order(1, -1));
        Check.due("2 that go ROUND are not more than 2", 100, layers(2, 5).order(2, -1));
        Check.due("none come", 100, layers(0, 5).order(0, -1));
        ClogHouse x = new ClogHouse();
        x.layer(1, 5);
        x.layer(20, 1000);
        x.stream(1000);
        x.come(7, 1);
        Check.due("no PUSH: all go ROUND in the first HOUR", 0, x.order(0, -1));
        x.stream(997);
        Check.due("a PUSH of 99,949: some HOURS", true, x.order(0, -1) > 0);
    }

    private static void orderOut() {
        Check.says(26, "GRAINS come OUT or go ROUND, more than m in one HOUR");
        ClogHouse x = layers(3, 5);
        x.grain(0, 0, 500);
        Check.due("2 of 3 come OUT: more than 0", 0, x.order(0, -1));
        Check.due("2 are more than 1", 0, x.order(1, -1));
        Check.due("2 are not more than 2, but 3 that go ROUND are", 5, x.order(2, -1));
        Check.due("3 are not more than 3", 100, x.order(3, -1));
        x.come(1, 4);
        Check.due("of all SIZES: 4 on the CAKE and 2 OUT", 5, x.order(6, -1));
        Check.due("7 go ROUND", 100, x.order(7, -1));
    }

    /** Its PUSH ends it: 1 * (10,000 + CAKE * (100 + p / 100) / 100) / 100 is within 100,000 up to some 850,000. */
    private static void orderOfGreatCakes() {
        Check.says(26, "the most HOURS (100 at most) go by ahead of the first in which GRAINS come OUT or go ROUND");
        ClogHouse x = new ClogHouse();
        x.layer(1, 1000);
        x.stream(1);
        int coming = 0;
        for (int size = 1; size <= 7; size++) {
            x.come(size, 9999);
            coming += 9999;
        }
        int hours = 0;
        while (FilterSentences.leastOf(10000, (long) hours * coming, 100, 1) >= 0) {
            hours++;
        }
        Check.due("its CAKE is above 500,000 then", true, hours * coming > 500000);
        Check.due("HOURS", hours, x.order(0, -1));
    }

    private static void orderOf(String call, ClogHouse x, int m, int... want) {
        for (int i = 0; i < want.length; i++) {
            Check.due(call + ": LAYER " + i, want[i], x.order(m, i));
        }
    }

    private static void orderBest() {
        Check.says(26, "ORDER: of all orders of all LAYERS as CELLS of a FILTER");
        ClogHouse x = layers(1, 5, 10);
        Check.due("HOURS", 10, x.order(0, -1));
        orderOf("the greater one on the top", x, 0, 1, 0);
        ClogHouse y = layers(1, 3, 7, 5, 60, 9, 2);
        Check.due("HOURS", 60, y.order(0, -1));
        orderOf("one of six on the top", y, 0, 3, 0, 1, 2, 4, 5);
        Check.says(26, "of several orders the one in which the lower LAYER (as told) stands where they first differ.");
        orderOf("all alike", layers(1, 5, 5, 5, 5, 5, 5), 0, 0, 1, 2, 3, 4, 5);
        orderOf("two are best", layers(1, 5, 10, 10), 0, 1, 0, 2);
        orderOf("the last one is best", layers(1, 5, 6, 7), 0, 2, 0, 1);
        orderOf("more than 100 each", layers(1, 100, 1000, 200), 0, 0, 1, 2);
        orderOf("none is good", layers(9, 1, 2, 3), 0, 0, 1, 2);
        ClogHouse z = new ClogHouse();
        z.layer(20, 1000);
        z.layer(1, 5);
        z.stream(10);
        z.grain(7, 0, 0);
        z.come(7, 1);
        Check.due("on the CAKE for 100 HOURS", 100, z.order(0, -1));
        orderOf("the narrow one on the top", z, 0, 1, 0);
    }

    /** The last of 720 orders is the only best one, by PORES and TAKES of each LAYER. */
    private static void orderOfWhole() {
        Check.says(26, "of all orders of all LAYERS as CELLS of a FILTER");
        int[] come = {9, 9, 6, 0, 0, 2, 0, 9};
        int[][] layers = {{2, 11}, {3, 12}, {4, 11}, {5, 7}, {6, 8}, {5, 8}};
        ClogHouse x = new ClogHouse();
        ClogHouse y = new ClogHouse();
        y.filter();
        for (int i = 0; i < 6; i++) {
            x.layer(layers[i][0], layers[i][1]);
            y.cell(0, layers[5 - i][0], layers[5 - i][1]);
        }
        x.stream(33);
        y.stream(33);
        for (int size = 0; size <= 7; size++) {
            x.grain(size, 0, 840);
            y.grain(size, 0, 840);
            x.come(size, come[size]);
            y.come(size, come[size]);
        }
        Check.due("HOURS", 8, x.order(15, -1));
        orderOf("the last of all orders", x, 15, 5, 4, 3, 2, 1, 0);
        y.hours(20);
        Check.due("such a FILTER goes 8 HOURS", 9, y.breaks(0, 15));
    }

    private static void orderAlone() {
        Check.says(26, "a FILTER that RUNS alone from clean, with the STREAM of now, without RULES:");
        ClogHouse x = layers(1, 5, 10);
        StreamSentences.bed(x, 3, 10);
        x.set(0, 0, 1);
        Check.ruled(x, 0, "w:1");
        Check.due("HOURS beside a FILTER", 10, x.order(0, -1));
        int digest = x.digest();
        x.order(3, 0);
        Check.due("no FILTER is touched", digest, x.digest());
        Check.due("nothing came", 0, x.led(0, 0));
        x.hours(7);
        Check.due("HOURS later", 10, x.order(0, -1));
        x.come(0, 5);
        Check.due("the STREAM of now", 2, x.order(0, -1));
        x.grain(0, 0, 0);
        Check.due("STICK of now: all come OUT", 0, x.order(0, -1));
        x.grain(0, 0, 1000);
        Check.due("from clean again", 2, x.order(0, -1));
        x.layer(1, 50);
        Check.due("all LAYERS of now", 10, x.order(0, -1));
        orderOf("with the third", x, 0, 2, 0, 1);
        x.stream(1000);
        Check.due("Q of now: no PUSH", 0, x.order(0, -1));
    }

    private static void orderBounds() {
        Check.says(26, "ORDER with m (0 .. 1,000,000): its i-th LAYER from the top; i NONE: the HOURS.");
        ClogHouse x = layers(1, 5, 10);
        Check.due("m 0", 10, x.order(0, -1));
        Check.due("m 1,000,000", 100, x.order(1000000, -1));
        Check.due("the first from the top", 1, x.order(0, 0));
        Check.due("the last", 0, x.order(0, 1));
        Check.says(26, "NONE: no such ones, no LAYERS, no STREAM.");
        Check.due("m -1", -1, x.order(-1, -1));
        Check.due("m 1,000,001", -1, x.order(1000001, -1));
        Check.due("i 2", -1, x.order(0, 2));
        Check.due("i 6", -1, x.order(0, 6));
        Check.due("i -2", -1, x.order(0, -2));
        for (int far : FAR) {
            Check.due("m " + far, -1, x.order(far, -1));
            Check.due("i " + far, -1, x.order(0, far));
        }
        ClogHouse y = new ClogHouse();
        y.stream(5);
        Check.due("no LAYERS: HOURS", -1, y.order(0, -1));
        Check.due("no LAYERS", -1, y.order(0, 0));
        ClogHouse z = new ClogHouse();
        z.layer(5, 5);
        Check.due("no STREAM: HOURS", -1, z.order(0, -1));
        Check.due("no STREAM", -1, z.order(0, 0));
        z.come(0, 5);
        Check.due("no STREAM, though GRAINS are told", -1, z.order(0, 0));
        z.stream(1);
        Check.due("with a STREAM", 0, z.order(0, 0));
    }

    private static void costBounds() {
        Check.says(27, "COST of an HOUR by age (0 .. 19; NONE: PRICE). False: out of bounds.");
        ClogHouse x = new ClogHouse();
        Check.due("age 0", true, x.cost(0, 7));
        Check.due("age 19", true, x.cost(19, 9));
        Check.due("NONE", true, x.cost(ClogHouse.NONE, 10000));
        Check.due("age 20", false, x.cost(20, 7));
        Check.due("age -2", false, x.cost(-2, 7));
        Check.says(27, "CHANGES: COST of an HOUR by age (20 numbers, 0 .. 1,000; 0 at first; an age of 20 and more costs as 19), PRICE of a change (0 .. 10,000):");
        Check.due("0", true, x.cost(5, 0));
        Check.due("1,000", true, x.cost(5, 1000));
        Check.due("-1", false, x.cost(5, -1));
        Check.due("1,001", false, x.cost(5, 1001));
        Check.due("PRICE 0", true, x.cost(ClogHouse.NONE, 0));
        Check.due("PRICE 10,000", true, x.cost(ClogHouse.NONE, 10000));
        Check.due("PRICE -1", false, x.cost(ClogHouse.NONE, -1));
        Check.due("PRICE 10,001", false, x.cost(ClogHouse.NONE, 10001));
        for (int far : FAR) {
            Check.due("age " + far, false, x.cost(far, 7));
            Check.due("v " + far, false, x.cost(5, far));
            Check.due("PRICE " + far, false, x.cost(ClogHouse.NONE, far));
        }
        Check.due("age 5 is as it was", 1000, x.cheapest(1, 5, 0));
        Check.due("age 0 is as it was", 7, x.cheapest(1, 0, 0));
        Check.due("age 19 is as it was", 9, x.cheapest(1, 19, 0));
    }

    private static void costAges() {
        Check.says(27, "0 at first; an age of 20 and more costs as 19");
        ClogHouse x = new ClogHouse();
        for (int age = 0; age <= 19; age++) {
            Check.due("0 at first, age " + age, 0, x.cheapest(1, age, 0));
        }
        x.cost(ClogHouse.NONE, 10000);
        for (int age = 0; age <= 19; age++) {
            x.cost(age, age + 1);
        }
        for (int age = 0; age <= 19; age++) {
            Check.due("age " + age, age + 1, x.cheapest(1, age, 0));
        }
        Check.due("19, 20 and 21", 60, x.cheapest(3, 19, 0));
        Check.due("18, 19 and 20", 59, x.cheapest(3, 18, 0));
        Check.due("0 to 59", 210 + 40 * 20, x.cheapest(60, 0, 0));
    }

    private static void cheapestSums() {
        Check.says(28, "for T HOURS (1 .. 60) with a thing of an age at first: at the beginning of each HOUR one may change (age 0 then), then the HOUR costs by age, age is one more. CHEAPEST: the least sum;");
        ClogHouse x = new ClogHouse();
        x.cost(0, 1);
        for (int age = 1; age <= 19; age++) {
            x.cost(age, 100);
        }
        x.cost(ClogHouse.NONE, 10);
        Check.due("a change in each HOUR", 3 * 11, x.cheapest(3, 5, 0));
        Check.due("but not in the first with age 0", 1 + 2 * 11, x.cheapest(3, 0, 0));
        Check.due("one HOUR", 1, x.cheapest(1, 0, 0));
        Check.due("sixty", 1 + 59 * 11, x.cheapest(60, 0, 0));
        x.cost(ClogHouse.NONE, 99);
        Check.due("as dear as not to change", 100, x.cheapest(1, 5, 0));
        x.cost(ClogHouse.NONE, 98);
        Check.due("one less", 99, x.cheapest(1, 5, 0));
        x.cost(ClogHouse.NONE, 100);
        Check.due("one more", 100, x.cheapest(1, 5, 0));
        ClogHouse y = new ClogHouse();
        y.cost(0, 1000);
        y.cost(ClogHouse.NONE, 10000);
        y.cost(19, 1000);
        Check.due("a new thing may cost, too", 1000, y.cheapest(1, 19, 0));
        Check.due("1,000, two changes to 1,000, and three HOURS of 19 and more", 26000, y.cheapest(60, 0, 0));
    }

    private static void first(String call, ClogHouse x, int t, int age, int want) {
        Check.due(call, want, x.cheapest(t, age, 1));
    }

    private static void cheapestFirst() {
        Check.says(28, "FIRST: the first HOUR (0 ..) in which one changes in that of the cheapest ways whose first change is latest (none, if one of them has no change).");
        ClogHouse x = new ClogHouse();
        x.cost(19, 10);
        x.cost(ClogHouse.NONE, 3);
        first("in the last of three", x, 3, 17, 2);
        first("in the last but one: it is 19 there", x, 4, 17, 2);
        first("in the first", x, 1, 19, 0);
        first("in the first, of sixty", x, 60, 19, 0);
        first("in HOUR 19", x, 20, 0, 19);
        Check.due("with the PRICE alone", 3, x.cheapest(20, 0, 0));
        first("it does not become so old", x, 19, 0, -1);
        Check.due("for nothing", 0, x.cheapest(19, 0, 0));
        x.cost(ClogHouse.NONE, 10);
        first("one of the cheapest has no change", x, 1, 19, -1);
        first("none with two HOURS: 20 or 10", x, 2, 19, 0);
        x.cost(ClogHouse.NONE, 9);
        first("a change is cheaper", x, 1, 19, 0);
        ClogHouse y = new ClogHouse();
        first("all is free: none", y, 60, 19, -1);
        Check.says(28, "CHEAPEST (0), FIRST (1). NONE: FIRST is never, T, age (0 .. 19), what.");
        first("FIRST is never", y, 1, 0, -1);
        Check.due("what 2, though there is a FIRST", -1, x.cheapest(1, 19, 2));
        Check.due("what -1, though there is a FIRST", -1, x.cheapest(1, 19, -1));
        Check.due("CHEAPEST is told then", 0, y.cheapest(1, 0, 0));
    }

    private static void cheapestBounds() {
        Check.says(28, "NONE: FIRST is never, T, age (0 .. 19), what.");
        ClogHouse x = new ClogHouse();
        x.cost(0, 1);
        Check.due("T 1", 1, x.cheapest(1, 0, 0));
        Check.due("T 60", 0, x.cheapest(60, 1, 0));
        Check.due("T 0", -1, x.cheapest(0, 0, 0));
        Check.due("T -1", -1, x.cheapest(-1, 0, 0));
        Check.due("T 61", -1, x.cheapest(61, 0, 0));
        Check.due("age 19", 0, x.cheapest(1, 19, 0));
        Check.due("age -1", -1, x.cheapest(1, -1, 0));
        Check.due("age 20", -1, x.cheapest(1, 20, 0));
        Check.due("what -1", -1, x.cheapest(1, 0, -1));
        Check.due("what 2", -1, x.cheapest(1, 0, 2));
        for (int far : FAR) {
            Check.due("T " + far, -1, x.cheapest(far, 0, 0));
            Check.due("age " + far, -1, x.cheapest(1, far, 0));
            Check.due("what " + far, -1, x.cheapest(1, 0, far));
        }
    }

    private static void gaugeBounds() {
        Check.says(29, "A reading: its number. NONE: no such CELL, out of bounds, there are 100.");
        ClogHouse x = new ClogHouse();
        StreamSentences.bed(x, 5, 5);
        x.cell(0, 6, 5);
        x.filter();
        Check.due("the first", 0, x.gauge(0, 0, 5, 5));
        Check.due("of another CELL", 1, x.gauge(0, 1, 5, 5));
        Check.due("CELL 2", -1, x.gauge(0, 2, 5, 5));
        Check.due("CELL -1", -1, x.gauge(0, -1, 5, 5));
        Check.due("a FILTER without CELLS", -1, x.gauge(1, 0, 5, 5));
        Check.due("FILTER 2", -1, x.gauge(2, 0, 5, 5));
        Check.due("FILTER -1", -1, x.gauge(-1, 0, 5, 5));
        Check.says(29, "of a CELL that its RESIST is within from .. to (1 .. 10,000; NOW).");
        Check.due("1 .. 10,000", 2, x.gauge(0, 0, 1, 10000));
        Check.due("10,000", 3, x.gauge(0, 0, 10000, 10000));
        Check.due("1", 4, x.gauge(0, 0, 1, 1));
        Check.due("from 0", -1, x.gauge(0, 0, 0, 5));
        Check.due("to 10,001", -1, x.gauge(0, 0, 5, 10001));
        Check.due("from 10,001", -1, x.gauge(0, 0, 10001, 10001));
        Check.due("to 0", -1, x.gauge(0, 0, 0, 0));
        Check.due("from above to", -1, x.gauge(0, 0, 6, 5));
        for (int far : FAR) {
            Check.due("from " + far, -1, x.gauge(0, 0, far, 5));
            Check.due("to " + far, -1, x.gauge(0, 0, 5, far));
            Check.due("both " + far, -1, x.gauge(0, 0, far, far));
            Check.due("CELL " + far, -1, x.gauge(0, far, 5, 5));
            Check.due("FILTER " + far, -1, x.gauge(far, 0, 5, 5));
        }
        Check.says(29, "GAUGES (100 readings at most)");
        for (int i = 5; i <= 99; i++) {
            Check.due("gauge(..)", i, x.gauge(0, i % 2, 1, 10000));
        }
        Check.due("one more", -1, x.gauge(0, 0, 1, 10000));
        Check.due("of another CELL", -1, x.gauge(0, 1, 1, 10000));
        Check.due("count(7)", 100, x.count(7));
    }

    private static void back(String call, ClogHouse x, int q, int least, int greatest) {
        Check.due(call + ": least", least, x.back(0, 0, q, 0));
        Check.due(call + ": greatest", greatest, x.back(0, 0, q, 1));
    }

    private static ClogHouse read(int pore, int take, int from, int to) {
        ClogHouse x = new ClogHouse();
        StreamSentences.bed(x, pore, take);
        x.gauge(0, 0, from, to);
        return x;
    }

    private static void backBounds() {
        Check.says(30, "READ BACK: the least and the greatest number of GRAINS held in all (0 .. PORE times TAKE less 1) with which RESIST (by the PORE of now) is within all these readings of that CELL.");
        back("all", read(10, 7, 1, 10000), 0, 0, 69);
        back("WIDTH 10 alone", read(10, 7, 100, 100), 0, 0, 6);
        back("WIDTH 9 alone", read(10, 7, 123, 123), 0, 7, 13);
        back("WIDTH 9 and 8", read(10, 7, 101, 156), 0, 7, 20);
        back("WIDTH 1 alone", read(10, 7, 10000, 10000), 0, 63, 69);
        back("above WIDTH 2", read(10, 7, 2501, 10000), 0, 63, 69);
        back("below all", read(10, 7, 1, 99), 0, -1, -1);
        back("between two", read(10, 7, 124, 155), 0, -1, -1);
        back("just to one", read(10, 7, 1, 100), 0, 0, 6);
        back("the least CELL", read(1, 1, 10000, 10000), 0, 0, 0);
        back("the least CELL, below", read(1, 1, 1, 9999), 0, -1, -1);
        back("the greatest CELL", read(20, 1000, 25, 25), 0, 0, 999);
        back("the greatest CELL, all", read(20, 1000, 1, 10000), 0, 0, 19999);
        ClogHouse x = read(10, 7, 123, 10000);
        x.gauge(0, 0, 1, 204);
        back("within both", x, 0, 7, 27);
        ClogHouse y = read(10, 7, 123, 123);
        back("by the PORE of now: 10", y, 0, 7, 13);
        Check.ruled(y, 0, "w:1;u:1000");
        y.hours(1);
        back("by the PORE of now: 11", y, 1, 14, 20);
        ClogHouse z = read(10, 7, 1, 10000);
        for (int f = 1; f <= 7; f++) {
            StreamSentences.bed(z, 10, 7);
            z.cell(f, 10, 7);
            z.gauge(f, 1, 100, 123);
            z.gauge(f, 0, 123, 156);
        }
        for (int f = 1; f <= 7; f++) {
            Check.due("of that CELL alone, FILTER " + f, 7, z.back(f, 0, 0, 0));
            Check.due("of that CELL alone, FILTER " + f, 0, z.back(f, 1, 0, 0));
            Check.due("greatest of that CELL alone, FILTER " + f, 20, z.back(f, 0, 0, 1));
            Check.due("greatest of that CELL alone, FILTER " + f, 13, z.back(f, 1, 0, 1));
        }
        back("no other FILTER's readings", z, 0, 0, 69);
        Check.says(30, "READ BACK: least (0), greatest (1). NONE: none, no such ones.");
        Check.due("what -1", -1, y.back(0, 0, 0, -1));
        Check.due("what 2", -1, y.back(0, 0, 0, 2));
        Check.due("CELL 1", -1, y.back(0, 1, 0, 0));
        Check.due("CELL -1", -1, y.back(0, -1, 0, 0));
        Check.due("FILTER 1", -1, y.back(1, 0, 0, 0));
        Check.due("FILTER -1", -1, y.back(-1, 0, 0, 0));
        for (int far : FAR) {
            Check.due("what " + far, -1, y.back(0, 0, 0, far));
            Check.due("CELL " + far, -1, y.back(0, far, 0, 0));
            Check.due("FILTER " + far, -1, y.back(far, 0, 0, 0));
            Check.due("q " + far, -1, y.back(0, 0, far, 0));
        }
    }

    private static void backKnown() {
        Check.says(30, "As known in q (0 .. NOW) of readings told in HOURS up to q:");
        ClogHouse x = new ClogHouse();
        StreamSentences.bed(x, 10, 7);
        x.cell(0, 10, 7);
        back("no reading: all", x, 0, 0, 69);
        x.hours(2);
        x.gauge(0, 0, 123, 10000);
        x.hours(2);
        x.gauge(0, 0, 1, 204);
        back("ahead of the first", x, 1, 0, 69);
        back("in the HOUR of the first", x, 2, 7, 69);
        back("behind it", x, 3, 7, 69);
        back("NOW", x, 4, 7, 27);
        Check.due("q 5", -1, x.back(0, 0, 5, 0));
        Check.due("q -1", -1, x.back(0, 0, -1, 0));
        Check.due("of the other CELL", 69, x.back(0, 1, 4, 1));
        Check.due("of the other CELL, too", 0, x.back(0, 1, 4, 0));
    }

    private static void barred() {
        Check.says(31, "BARRED: the first reading behind which there is none.");
        ClogHouse x = new ClogHouse();
        StreamSentences.bed(x, 10, 7);
        x.cell(0, 10, 7);
        Check.due("no reading", -1, x.barred(0, 0, 0));
        x.gauge(0, 1, 1, 99);
        x.gauge(0, 0, 123, 10000);
        x.hours(1);
        x.gauge(0, 0, 1, 123);
        Check.due("WIDTH 9 is left", -1, x.barred(0, 0, 1));
        x.hours(1);
        x.gauge(0, 0, 124, 10000);
        x.gauge(0, 0, 1, 1);
        Check.due("none is left", 3, x.barred(0, 0, 2));
        Check.due("as known in 1", -1, x.barred(0, 0, 1));
        Check.due("as known in 0", -1, x.barred(0, 0, 0));
        Check.due("of the other CELL", 0, x.barred(0, 1, 2));
        Check.due("of the other CELL, as known in 0", 0, x.barred(0, 1, 0));
        Check.says(31, "BARRED: the reading. NONE: none is, no such ones.");
        Check.due("q 3", -1, x.barred(0, 1, 3));
        Check.due("q -1", -1, x.barred(0, 1, -1));
        Check.due("CELL 2", -1, x.barred(0, 2, 0));
        Check.due("CELL -1", -1, x.barred(0, -1, 0));
        Check.due("FILTER 1", -1, x.barred(1, 0, 0));
        Check.due("FILTER -1", -1, x.barred(-1, 1, 0));
        for (int far : FAR) {
            Check.due("q " + far, -1, x.barred(0, 1, far));
            Check.due("CELL " + far, -1, x.barred(0, far, 2));
            Check.due("FILTER " + far, -1, x.barred(far, 1, 2));
        }
        ClogHouse z = read(10, 7, 1, 10000);
        StreamSentences.bed(z, 10, 7);
        StreamSentences.bed(z, 10, 7);
        z.gauge(1, 0, 1, 99);
        Check.due("of another FILTER", -1, z.barred(0, 0, 0));
        Check.due("of that FILTER", 1, z.barred(1, 0, 0));
        Check.due("of one without readings", -1, z.barred(2, 0, 0));
        ClogHouse y = read(10, 7, 1, 99);
        Check.due("the first alone", 0, y.barred(0, 0, 0));
        Check.ruled(y, 0, "w:1;u:1000");
        y.hours(1);
        Check.due("by the PORE of now: 11, with 82", -1, y.barred(0, 0, 1));
    }
}
