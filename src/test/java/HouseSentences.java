/** Promises 32 to 34, and what the document says of 512 calls: a test for each sentence. */
final class HouseSentences {
    private static final int[] FAR = {Integer.MIN_VALUE, Integer.MIN_VALUE + 1, -1000000, 1000000, Integer.MAX_VALUE};

    private HouseSentences() {
    }

    static void all() {
        led();
        ledInAll();
        ledBounds();
        digestOfNew();
        digestOfHouse();
        digestGoesRound();
        counts();
        countRan();
        countOthers();
    }

    private static void ledOf(ClogHouse x, int size, int... want) {
        for (int what = 0; what < want.length; what++) {
            Check.due("led(" + size + ", " + what + ")", want[what], x.led(size, what));
        }
    }

    private static void led() {
        Check.says(32, "LED of a SIZE: 0 came, 1 held, 2 WASHED OUT, 3 CARRIED OFF, 4 came OUT, 5 went ROUND.");
        ClogHouse x = new ClogHouse();
        ledOf(x, 0, 0, 0, 0, 0, 0, 0);
        StreamSentences.catching(x, 5, 1000);
        x.stream(10);
        x.come(7, 100);
        x.hours(1);
        ledOf(x, 7, 100, 100, 0, 0, 0, 0);
        x.grain(7, 2, 100);
        x.grain(7, 1, 500);
        Check.ruled(x, 0, "w:1;u:1000");
        x.hours(1);
        // 10 STAY, 45 come off, 100 more come and go ROUND
        ledOf(x, 7, 200, 55, 45, 0, 0, 100);
        x.hand(0, 0);
        ledOf(x, 7, 200, 0, 45, 55, 0, 100);
        x.come(7, 0);
        x.come(0, 50);
        x.grain(0, 0, 0);
        x.rule(0, ClogHouse.NONE);
        x.hours(2);
        ledOf(x, 0, 100, 0, 0, 0, 100, 0);
        ledOf(x, 7, 200, 0, 45, 55, 0, 100);
        ledOf(x, 6, 0, 0, 0, 0, 0, 0);
    }

    private static void ledInAll() {
        Check.says(32, "LED: came, held (with CAKES, STUCK), WASHED OUT, CARRIED OFF, came OUT, went ROUND of a SIZE in all.");
        ClogHouse x = new ClogHouse();
        StreamSentences.bed(x, 5, 1000);
        StreamSentences.bed(x, 5, 1000);
        x.stream(10);
        x.come(7, 100);
        x.hours(3);
        ledOf(x, 7, 300, 300, 0, 0, 0, 0);
        Check.due("CAKES of both", 300, x.told(0, 3) + x.told(1, 3));
        Check.ruled(x, 0, "w:1");
        x.come(7, 0);
        x.hours(1);
        ledOf(x, 7, 300, 150, 150, 0, 0, 0);
        ClogHouse y = new ClogHouse();
        StreamSentences.catching(y, 5, 1000);
        y.stream(10);
        y.come(7, 100);
        y.hours(1);
        y.come(7, 0);
        y.grain(7, 2, 1000);
        Check.ruled(y, 0, "w:1;u:1000");
        y.hours(1);
        Check.due("all are STUCK", 100, y.held(0, 1, 7, 1));
        ledOf(y, 7, 100, 100, 0, 0, 0, 0);
        ClogHouse z = busy();
        for (int size = 0; size <= 7; size++) {
            int sum = 0;
            for (int what = 1; what <= 5; what++) {
                Check.due("some of each", true, size < 7 || what == 4 || z.led(size, what) > 0);
                sum += z.led(size, what);
            }
            Check.due("each GRAIN is somewhere, SIZE " + size, z.led(size, 0), sum);
        }
    }

    /** Three FILTERS that are washed, changed, rested and shut; all SIZES come. */
    private static ClogHouse busy() {
        ClogHouse x = new ClogHouse();
        for (int f = 0; f < 3; f++) {
            StreamSentences.bed(x, 6 - f, 20);
            x.cell(f, 3, 40);
        }
        Check.ruled(x, 0, "w:h>3?1;u:800");
        Check.ruled(x, 1, "c:h>5|k>300?1;r:h=2?1");
        x.stream(77);
        for (int size = 0; size <= 7; size++) {
            x.come(size, 11 + 5 * size);
        }
        x.hours(40);
        x.hand(1, 1);
        x.hours(2);
        return x;
    }

    private static void ledBounds() {
        Check.says(32, "NONE: no such ones.");
        ClogHouse x = busy();
        Check.due("SIZE -1", -1, x.led(-1, 0));
        Check.due("SIZE 8", -1, x.led(8, 0));
        Check.due("what -1", -1, x.led(0, -1));
        Check.due("what 6", -1, x.led(0, 6));
        for (int far : FAR) {
            Check.due("SIZE " + far, -1, x.led(far, 0));
            Check.due("what " + far, -1, x.led(0, far));
        }
    }

    private static int fold(int x, int... numbers) {
        int folded = x;
        for (int number : numbers) {
            folded = 31 * folded + number;
        }
        return folded;
    }

    private static void digestOfNew() {
        Check.says(33, "DIGEST.");
        ClogHouse x = new ClogHouse();
        Check.due("of a new object", 217, x.digest());
        x.hours(5);
        Check.due("NOW", 222, x.digest());
        Check.due("asked again", 222, x.digest());
        Check.says(33, "DIGEST: x, at first 7, becomes 31 x and each number (32 bits, going round): NOW; of each FILTER: what it is, HOURS since, WASHES made, CAKE of each SIZE, and of each CELL: PORE, and of each SIZE held and STUCK.");
        x.filter();
        int one = fold(222, 0, 0, 0, 0, 0, 0, 0, 0, 0, 0, 0);
        Check.due("of a FILTER without CELLS", one, x.digest());
        x.cell(0, 9, 100);
        one = fold(one, 9, 0, 0, 0, 0, 0, 0, 0, 0, 0, 0, 0, 0, 0, 0, 0, 0);
        Check.due("of a CELL", one, x.digest());
        x.filter();
        Check.due("of each FILTER", fold(one, 0, 0, 0, 0, 0, 0, 0, 0, 0, 0, 0), x.digest());
        x.layer(5, 5);
        x.cost(0, 5);
        x.gauge(0, 0, 1, 1);
        x.stream(5);
        Check.feed(x, "w:1");
        Check.due("of nothing else", fold(one, 0, 0, 0, 0, 0, 0, 0, 0, 0, 0, 0), x.digest());
    }

    private static void digestOfHouse() {
        Check.says(33, "of each FILTER: what it is, HOURS since, WASHES made, CAKE of each SIZE, and of each CELL: PORE, and of each SIZE held and STUCK.");
        ClogHouse x = new ClogHouse();
        StreamSentences.bed(x, 6, 1000);
        x.cell(0, 5, 1000);
        x.stream(10);
        x.grain(5, 0, 0);
        x.grain(5, 2, 500);
        x.come(5, 100);
        x.hours(1);
        Check.ruled(x, 0, "w:n=0?1;u:1000");
        x.hours(1);
        // PORES 7 and 6; 50 STUCK, 30 of 50 come off
        x.come(5, 0);
        x.come(7, 4);
        x.hours(1);
        int want = fold(7, 3, 1, 1, 1, 0, 0, 0, 0, 0, 0, 0, 4);
        want = fold(want, 7, 0, 0, 0, 0, 0, 0, 0, 0, 0, 0, 0, 0, 0, 0, 0, 0);
        want = fold(want, 6, 0, 0, 0, 0, 0, 0, 0, 0, 0, 0, 70, 50, 0, 0, 0, 0);
        Check.due("RUNS, 1 since, 1 WASH, 4 of SIZE 7 on the CAKE, 70 of SIZE 5 below, 50 of them STUCK", want, x.digest());
        x.hand(0, 1);
        want = fold(7, 3, 4, 1, 1, 0, 0, 0, 0, 0, 0, 0, 4);
        want = fold(want, 7, 0, 0, 0, 0, 0, 0, 0, 0, 0, 0, 0, 0, 0, 0, 0, 0);
        want = fold(want, 6, 0, 0, 0, 0, 0, 0, 0, 0, 0, 0, 70, 50, 0, 0, 0, 0);
        Check.due("SHUT", want, x.digest());
    }

    private static void digestGoesRound() {
        Check.says(33, "(32 bits, going round)");
        ClogHouse x = new ClogHouse();
        java.math.BigInteger all = java.math.BigInteger.valueOf(217);
        for (int f = 0; f < 8; f++) {
            x.filter();
            for (int i = 0; i < 11; i++) {
                all = all.multiply(java.math.BigInteger.valueOf(31));
            }
            Check.due("of " + (f + 1) + " FILTERS", all.intValue(), x.digest());
        }
    }

    private static void counts() {
        Check.says(34, "0 NOW, 1 FILTERS, 2 those that RAN in the latest HOUR, 3 SHUT, 4 WORN OUT, 5 RULES, 6 LAYERS, 7 readings, 8 bytes of the TAPE, 9 Q.");
        ClogHouse x = new ClogHouse();
        for (int what = 0; what <= 9; what++) {
            Check.due("at first: count(" + what + ")", 0, x.count(what));
        }
        for (int f = 0; f < 7; f++) {
            StreamSentences.bed(x, 5, 5);
        }
        for (int f = 0; f < 2; f++) {
            x.hand(f, 1);
        }
        Check.rulesOf(x, "r:1");
        Check.rulesOf(x, "w:1");
        Check.rulesOf(x, "w:0");
        x.set(2, 2, 1);
        x.rule(2, 1);
        x.rule(3, 0);
        x.rule(4, 1);
        x.rule(5, 2);
        x.layer(3, 3);
        x.layer(3, 3);
        for (int i = 0; i < 5; i++) {
            x.gauge(0, 0, 1, 10000);
        }
        Check.feed(x, "w:1;r:2");
        x.stream(321);
        x.hours(4);
        int[] want = {4, 7, 2, 2, 1, 3, 2, 5, 7, 321};
        for (int what = 0; what <= 9; what++) {
            Check.due("count(" + what + ")", want[what], x.count(what));
        }
    }

    private static void countRan() {
        Check.says(34, "2 those that RAN in the latest HOUR");
        ClogHouse x = new ClogHouse();
        StreamSentences.bed(x, 5, 5);
        StreamSentences.bed(x, 5, 5);
        Check.due("no HOUR yet", 0, x.count(2));
        x.hours(1);
        Check.due("both, without a STREAM", 2, x.count(2));
        Check.ruled(x, 0, "r:1");
        Check.due("till the next HOUR", 2, x.count(2));
        x.hours(1);
        Check.due("one RESTS", 1, x.count(2));
        Check.ruled(x, 0, "w:1");
        x.hours(1);
        Check.due("one is WASHED", 1, x.count(2));
        Check.ruled(x, 0, "c:1");
        x.hours(1);
        Check.due("CHANGED by its RULES, it RUNS", 2, x.count(2));
        x.hand(1, 1);
        x.hours(1);
        Check.due("one is SHUT", 1, x.count(2));
        x.hours(0);
        Check.due("no HOUR more", 1, x.count(2));
    }

    private static void countOthers() {
        Check.says(34, "NONE for others.");
        ClogHouse x = new ClogHouse();
        Check.due("-1", -1, x.count(-1));
        Check.due("10", -1, x.count(10));
        for (int far : FAR) {
            Check.due("count(" + far + ")", -1, x.count(far));
        }
    }
}
