import java.math.BigInteger;

/** Promises 23 to 31: drops, LAYERS, CHANGES and GAUGES, against plain trials of every way. */
public final class ReckonTest {
    public static void main(String[] args) {
        promise23();
        promise24();
        promise25();
        promise26();
        promise26Longest();
        promise26Forgets();
        promise27();
        promise28();
        promise28EveryWay();
        promise29();
        promise30();
        promise30EveryNumber();
        promise31();
        Check.finish();
    }

    private static BigInteger ways(int n, int d) {
        BigInteger w = BigInteger.ONE;
        for (int i = 0; i < d; i++) {
            w = w.multiply(BigInteger.valueOf(Math.max(0, n - i))).divide(BigInteger.valueOf(i + 1));
        }
        return w;
    }

    private static void promise23() {
        ClogHouse x = new ClogHouse();
        for (int n = 1; n <= 60; n++) {
            for (int k = 0; k <= n; k++) {
                x = new ClogHouse();
                for (int d = 0; d <= n; d++) {
                    BigInteger clean = ways(n - k, d);
                    BigInteger all = ways(n, d);
                    BigInteger common = clean.gcd(all);
                    Check.due("upper", clean.divide(common).longValueExact(), x.share(n, k, d, 0));
                    Check.due("lower", all.divide(common).longValueExact(), x.share(n, k, d, 1));
                }
            }
        }
        Check.due("n 0", -1, x.share(0, 0, 0, 0));
        Check.due("n 61", -1, x.share(61, 0, 0, 0));
        Check.due("k", -1, x.share(5, 6, 0, 0));
        Check.due("k -1", -1, x.share(5, -1, 0, 0));
        Check.due("d", -1, x.share(5, 0, 6, 0));
        Check.due("d -1", -1, x.share(5, 0, -1, 0));
        Check.due("what", -1, x.share(5, 0, 0, 2));
        Check.due("what -1", -1, x.share(5, 0, 0, -1));
    }

    private static int fewest(int n, int k, int m) {
        for (int d = 0; d <= n; d++) {
            if (ways(n - k, d).multiply(BigInteger.valueOf(m)).compareTo(ways(n, d)) <= 0) {
                return d;
            }
        }
        return -1;
    }

    private static void promise24() {
        ClogHouse x = new ClogHouse();
        int[] ms = {1, 2, 3, 10, 999, 54321, 1000000};
        for (int n = 1; n <= 60; n++) {
            x = new ClogHouse();
            for (int k = 0; k <= n; k++) {
                for (int m : ms) {
                    Check.due("drops " + n + " " + k + " " + m, fewest(n, k, m), x.drops(n, k, m));
                }
            }
        }
        Check.due("n 0", -1, x.drops(0, 0, 1));
        Check.due("n 61", -1, x.drops(61, 0, 1));
        Check.due("k", -1, x.drops(5, 6, 1));
        Check.due("k -1", -1, x.drops(5, -1, 1));
        Check.due("m 0", -1, x.drops(5, 5, 0));
        Check.due("m above", -1, x.drops(5, 5, 1000001));
    }

    private static void promise25() {
        ClogHouse x = new ClogHouse();
        Check.due("pore 0", -1, x.layer(0, 1));
        Check.due("pore 21", -1, x.layer(21, 1));
        Check.due("take 0", -1, x.layer(1, 0));
        Check.due("take 1001", -1, x.layer(1, 1001));
        for (int i = 0; i < 6; i++) {
            Check.due("layer", i, x.layer(20, 1000));
        }
        Check.due("a seventh", -1, x.layer(20, 1000));
        Check.due("six", 6, x.count(6));
    }

    private static void promise26() {
        ClogHouse x = new ClogHouse();
        x.stream(10);
        Check.due("no layers", -1, x.order(0, -1));
        x.layer(5, 1);
        Check.due("one", 100, x.order(0, -1));
        Check.due("m -1", -1, x.order(-1, -1));
        Check.due("m above", -1, x.order(1000001, -1));
        Check.due("i -2", -1, x.order(0, -2));
        Check.due("i 1", -1, x.order(0, 1));
        Check.due("i 0", 0, x.order(0, 0));
        x.come(0, 6);
        x.grain(0, 0, 1000);
        Check.due("one GRAIN is held an hour, five come out", 100, x.order(6, -1));
        Check.due("six are more than five", 0, x.order(4, -1));
        ClogHouse y = new ClogHouse();
        y.layer(5, 5);
        Check.due("no stream", -1, y.order(0, 0));
    }

    /** Against FILTERS of each order that RUN alone in a house of their own. */
    private static void promise26Longest() {
        int[][] four = {{9, 40}, {4, 25}, {6, 30}, {12, 15}};
        for (int m = 0; m <= 120; m += 10) {
            longest(four, m);
        }
        int[][] six = {{9, 40}, {12, 15}, {6, 30}, {4, 25}, {20, 3}, {7, 60}};
        longest(six, 20);
        longest(six, 40);
        longest(six, 60);
        int[][] turned = {{7, 60}, {20, 3}, {4, 25}, {6, 30}, {12, 15}, {9, 40}};
        longest(turned, 20);
        longest(turned, 40);
        longest(turned, 60);
    }

    private static void longest(int[][] layers, int m) {
        ClogHouse x = new ClogHouse();
        tellStream(x);
        for (int[] layer : layers) {
            x.layer(layer[0], layer[1]);
        }
        int[] best = new int[layers.length + 1];
        best[layers.length] = -1;
        tryOrders(layers, new int[layers.length], 0, m, best);
        Check.due("the most hours, m " + m, best[layers.length], x.order(m, -1));
        for (int i = 0; i < layers.length; i++) {
            Check.due("its layer " + i + ", m " + m, best[i], x.order(m, i));
        }
    }

    /** Keeps in best the order, and behind it its hours. */
    private static void tryOrders(int[][] layers, int[] order, int depth, int m, int[] best) {
        int n = layers.length;
        if (depth == n) {
            int hours = hoursOf(layers, order, m);
            if (hours > best[n]) {
                System.arraycopy(order, 0, best, 0, n);
                best[n] = hours;
            }
            return;
        }
        for (int l = 0; l < n; l++) {
            boolean free = true;
            for (int i = 0; i < depth; i++) {
                free &= order[i] != l;
            }
            if (free) {
                order[depth] = l;
                tryOrders(layers, order, depth + 1, m, best);
            }
        }
    }

    private static void tellStream(ClogHouse x) {
        x.stream(60);
        for (int size = 0; size < 8; size++) {
            x.grain(size, 0, 300 + 90 * size);
            x.come(size, 18 - size);
        }
    }

    private static int hoursOf(int[][] layers, int[] order, int m) {
        ClogHouse x = new ClogHouse();
        tellStream(x);
        x.filter();
        for (int l : order) {
            x.cell(0, layers[l][0], layers[l][1]);
        }
        x.hours(101);
        int broke = x.breaks(0, m);
        return broke == -1 ? 100 : Math.min(100, broke - 1);
    }

    /** What is told anew counts at once, with the same m as before. */
    private static void promise26Forgets() {
        ClogHouse x = new ClogHouse();
        x.layer(8, 100);
        x.stream(10);
        x.come(2, 50);
        Check.due("49 come out", 0, x.order(42, -1));
        x.grain(2, 0, 1000);
        Check.due("STICK holds more", 100, x.order(42, -1));
        x.come(2, 60);
        Check.due("more come", 0, x.order(42, -1));
        x.layer(2, 1000);
        Check.due("one more layer", 100, x.order(42, -1));
        Check.due("wherever it lies", 0, x.order(42, 0));
        x.hours(5);
        Check.due("no HOUR changes it", 100, x.order(42, -1));
        x.stream(1000);
        Check.due("the push becomes too great", 1, x.order(42, -1) < 100 ? 1 : 0);
        x.stream(10);
        Check.due("not with less", 100, x.order(42, -1));
    }

    private static void promise27() {
        ClogHouse x = new ClogHouse();
        Check.due("age 0", true, x.cost(0, 0));
        Check.due("age 19", true, x.cost(19, 1000));
        Check.due("cost above", false, x.cost(19, 1001));
        Check.due("cost below", false, x.cost(19, -1));
        Check.due("age 20", false, x.cost(20, 1));
        Check.due("age -2", false, x.cost(-2, 1));
        Check.due("price", true, x.cost(-1, 10000));
        Check.due("price above", false, x.cost(-1, 10001));
        Check.due("price below", false, x.cost(-1, -1));
        Check.due("it is as it was told last", 1000, x.cheapest(1, 19, 0));
    }

    private static void promise28() {
        ClogHouse x = new ClogHouse();
        Check.due("all is free", 0, x.cheapest(60, 0, 0));
        Check.due("no change is as cheap", -1, x.cheapest(60, 0, 1));
        x.cost(19, 10);
        x.cost(-1, 3);
        Check.due("an age of 20 and more costs as 19", 3, x.cheapest(3, 19, 0));
        Check.due("change at once", 0, x.cheapest(3, 19, 1));
        Check.due("change as late as can be", 1, x.cheapest(3, 18, 1));
        Check.due("once", 3, x.cheapest(3, 18, 0));
        Check.due("T 0", -1, x.cheapest(0, 0, 0));
        Check.due("T 61", -1, x.cheapest(61, 0, 0));
        Check.due("age -1", -1, x.cheapest(5, -1, 0));
        Check.due("age 20", -1, x.cheapest(5, 20, 0));
        Check.due("what", -1, x.cheapest(5, 0, 2));
        Check.due("what -1", -1, x.cheapest(5, 0, -1));
        x.cost(-1, 10);
        Check.due("as dear as the change", -1, x.cheapest(1, 19, 1));
        x.cost(-1, 10000);
        x.cost(19, 1000);
        Check.due("dear", 1000 * 9, x.cheapest(9, 19, 0));
        Check.due("a change pays", 10000, x.cheapest(11, 19, 0));
        Check.due("at once or none of it", 0, x.cheapest(11, 19, 1));
        Check.due("three changes with nineteen free HOURS each, and three HOURS", 3 * 10000 + 3 * 1000, x.cheapest(60, 19, 0));
    }

    /** Every one of the 2^T ways to change, for random costs. */
    private static void promise28EveryWay() {
        java.util.Random random = new java.util.Random(28);
        for (int run = 0; run < 120; run++) {
            ClogHouse x = new ClogHouse();
            int[] costs = new int[20];
            int price = random.nextInt(12);
            x.cost(-1, price);
            for (int age = 0; age < 20; age++) {
                costs[age] = random.nextInt(1 + age / 2 + run % 3);
                x.cost(age, costs[age]);
            }
            int t = 1 + random.nextInt(11);
            int age = random.nextInt(20);
            int least = Integer.MAX_VALUE;
            int first = -1;
            for (int way = 0; way < 1 << t; way++) {
                int sum = 0;
                int a = age;
                for (int hour = 0; hour < t; hour++) {
                    if ((way >> hour & 1) != 0) {
                        sum += price;
                        a = 0;
                    }
                    sum += costs[Math.min(19, a)];
                    a++;
                }
                int change = way == 0 ? t : Integer.numberOfTrailingZeros(way);
                if (sum < least || sum == least && change > first) {
                    least = sum;
                    first = change;
                }
            }
            Check.due("cheapest", least, x.cheapest(t, age, 0));
            Check.due("first", first == t ? -1 : first, x.cheapest(t, age, 1));
        }
    }

    private static void promise29() {
        ClogHouse x = new ClogHouse();
        Check.due("no filter", -1, x.gauge(0, 0, 1, 1));
        x.filter();
        Check.due("no cell", -1, x.gauge(0, 0, 1, 1));
        x.cell(0, 5, 5);
        Check.due("cell -1", -1, x.gauge(0, -1, 1, 1));
        Check.due("from 0", -1, x.gauge(0, 0, 0, 1));
        Check.due("to 10001", -1, x.gauge(0, 0, 1, 10001));
        Check.due("from above to", -1, x.gauge(0, 0, 6, 5));
        for (int i = 0; i < 100; i++) {
            Check.due("reading", i, x.gauge(0, 0, 1, 10000));
        }
        Check.due("one more", -1, x.gauge(0, 0, 1, 10000));
        Check.due("a hundred", 100, x.count(7));

        ClogHouse y = gauged();
        for (int i = 0; i < 99; i++) {
            y.gauge(0, 0, 1, 10000);
        }
        Check.due("the last", 99, y.gauge(0, 0, 25, 99));
        Check.due("it counts as the others do", 99, y.barred(0, 0, 0));
    }

    private static ClogHouse gauged() {
        ClogHouse x = new ClogHouse();
        x.filter();
        x.cell(0, 10, 100);
        x.cell(0, 4, 3);
        return x;
    }

    private static void promise30() {
        ClogHouse x = gauged();
        Check.due("least", 0, x.back(0, 0, 0, 0));
        Check.due("greatest", 999, x.back(0, 0, 0, 1));
        x.gauge(0, 0, 120, 300);
        Check.due("WIDTH 9 (123)", 100, x.back(0, 0, 0, 0));
        Check.due("WIDTH 6 (277)", 499, x.back(0, 0, 0, 1));
        Check.due("the other cell", 11, x.back(0, 1, 0, 1));
        x.hours(2);
        x.gauge(0, 0, 200, 10000);
        Check.due("as known in 1", 100, x.back(0, 0, 1, 0));
        Check.due("as known in 2: WIDTH 7 (204)", 300, x.back(0, 0, 2, 0));
        Check.due("q 3", -1, x.back(0, 0, 3, 0));
        Check.due("q -1", -1, x.back(0, 0, -1, 0));
        Check.due("what", -1, x.back(0, 0, 0, 2));
        Check.due("what -1", -1, x.back(0, 0, 0, -1));
        Check.due("cell", -1, x.back(0, 2, 0, 0));
        Check.due("filter", -1, x.back(1, 0, 0, 0));
        x.gauge(0, 0, 205, 250);
        Check.due("between two: none", -1, x.back(0, 0, 2, 0));
        Check.due("none", -1, x.back(0, 0, 2, 1));
        x.rule(0, Check.rulesOf(x, "w:1;u:1000"));
        x.hours(1);
        Check.due("the PORE of now is 11: WIDTH 9", 200, x.back(0, 0, 0, 0));
    }

    private static void promise30EveryNumber() {
        java.util.Random random = new java.util.Random(30);
        for (int run = 0; run < 60; run++) {
            int pore = 1 + random.nextInt(20);
            int take = 1 + random.nextInt(30);
            ClogHouse x = new ClogHouse();
            x.filter();
            x.cell(0, pore, take);
            int low = 1;
            int high = 10000;
            for (int i = 0; i < 3; i++) {
                int width = 1 + random.nextInt(pore);
                int from = Math.max(1, 10000 / width / width - random.nextInt(200));
                int to = Math.min(10000, from + random.nextInt(2000));
                x.gauge(0, 0, from, to);
                low = Math.max(low, from);
                high = Math.min(high, to);
                int least = -1;
                int greatest = -1;
                for (int h = 0; h < pore * take; h++) {
                    int w = pore - h / take;
                    int resist = 10000 / w / w;
                    if (resist >= low && resist <= high) {
                        least = least == -1 ? h : least;
                        greatest = h;
                    }
                }
                Check.due("least", least, x.back(0, 0, 0, 0));
                Check.due("greatest", greatest, x.back(0, 0, 0, 1));
            }
        }
    }

    private static void promise31() {
        ClogHouse x = gauged();
        Check.due("none", -1, x.barred(0, 0, 0));
        x.gauge(0, 1, 1, 624);
        Check.due("of the other cell: WIDTH 4 has 625", 0, x.barred(0, 1, 0));
        Check.due("this one is not", -1, x.barred(0, 0, 0));
        x.gauge(0, 0, 100, 200);
        x.hours(1);
        x.gauge(0, 0, 201, 10000);
        x.gauge(0, 0, 1, 1);
        Check.due("as known in 0", -1, x.barred(0, 0, 0));
        Check.due("the first, by its number", 2, x.barred(0, 0, 1));
        Check.due("q 2", -1, x.barred(0, 0, 2));
        Check.due("q -1", -1, x.barred(0, 0, -1));
        Check.due("cell", -1, x.barred(0, 2, 0));
        Check.due("filter", -1, x.barred(1, 0, 0));
    }
}
