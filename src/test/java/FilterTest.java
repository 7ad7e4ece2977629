/** Promises 1 to 9: a new object, and what is told of grains, filters and cells. */
public final class FilterTest {
    public static void main(String[] args) {
        promise1();
        promise2();
        promise3();
        promise4();
        promise4WhatRan();
        promise5();
        promise6();
        promise7();
        promise8();
        promise8LatestHour();
        promise9();
        promise9Least();
        Check.finish();
    }

    private static void promise1() {
        ClogHouse x = new ClogHouse();
        for (int what = 0; what <= 9; what++) {
            Check.due("new: count " + what, 0, x.count(what));
        }
        Check.due("NONE", -1, ClogHouse.NONE);
        Check.due("new: digest", 217, x.digest());
        Check.due("new: told", -1, x.told(0, 0));
        Check.due("new: history", -1, x.history(0, 0, 0));
        Check.due("new: breaks", -1, x.breaks(0, 0));
        Check.due("new: fault", 0, x.fault());
        for (int what = 0; what <= 5; what++) {
            Check.due("new: led " + what, 0, x.led(7, what));
        }
    }

    private static void promise2() {
        ClogHouse x = new ClogHouse();
        Check.due("stick 0", true, x.grain(0, 0, 0));
        Check.due("off 1000", true, x.grain(7, 1, 1000));
        Check.due("stay", true, x.grain(3, 2, 17));
        Check.due("below", false, x.grain(0, 0, -1));
        Check.due("above", false, x.grain(0, 0, 1001));
        Check.due("size", false, x.grain(-1, 0, 5));
        Check.due("size 8", false, x.grain(8, 0, 5));
        Check.due("what", false, x.grain(0, 3, 5));
        Check.due("what -1", false, x.grain(0, -1, 5));

        ClogHouse y = running(10, 1000, 100, 2);
        y.grain(2, 0, 1000);
        y.hours(1);
        Check.due("STICK by WIDTH less SIZE", 12, y.held(0, 0, 2, 0));
    }

    private static void promise3() {
        ClogHouse x = new ClogHouse();
        for (int i = 0; i < 8; i++) {
            Check.due("filter", i, x.filter());
        }
        Check.due("a ninth", -1, x.filter());
        Check.due("eight", 8, x.count(1));
    }

    private static void promise4() {
        ClogHouse x = new ClogHouse();
        Check.due("no filter", -1, x.cell(0, 1, 1));
        x.filter();
        Check.due("least", 1, x.cell(0, 1, 1));
        Check.due("most", 2, x.cell(0, 20, 1000));
        Check.due("pore 0", -1, x.cell(0, 0, 1));
        Check.due("pore 21", -1, x.cell(0, 21, 1));
        Check.due("take 0", -1, x.cell(0, 1, 0));
        Check.due("take 1001", -1, x.cell(0, 1, 1001));
        Check.due("filter -1", -1, x.cell(-1, 1, 1));
        for (int i = 3; i <= 10; i++) {
            Check.due("cell", i, x.cell(0, 5, 5));
        }
        Check.due("an eleventh", -1, x.cell(0, 5, 5));
    }

    private static void promise4WhatRan() {
        ClogHouse x = running(10, 10, 0, 0);
        x.hours(1);
        Check.due("it RAN", -1, x.cell(0, 1, 1));
        x.hand(0, 0);
        Check.due("it RAN, though it is NEW again", -1, x.cell(0, 1, 1));

        ClogHouse y = new ClogHouse();
        y.filter();
        y.hours(1);
        Check.due("without cells it did not run", 1, y.cell(0, 5, 5));
        y.hand(0, 1);
        y.hours(1);
        Check.due("SHUT by hand, it did not run", 2, y.cell(0, 5, 5));
        y.hand(0, 2);
        y.rule(0, Check.rulesOf(y, "r:1"));
        y.hours(1);
        Check.due("it RESTS", 3, y.told(0, 0));
        Check.due("RESTING, it did not run", 3, y.cell(0, 5, 5));
    }

    private static void promise5() {
        ClogHouse x = new ClogHouse();
        Check.due("no filter", false, x.set(0, 0, 5));
        x.filter();
        Check.due("press", true, x.set(0, 0, 1));
        Check.due("press most", true, x.set(0, 0, 1000));
        Check.due("press above", false, x.set(0, 0, 1001));
        Check.due("press 0", false, x.set(0, 0, 0));
        Check.due("bear", true, x.set(0, 1, 1000));
        Check.due("bear above", false, x.set(0, 1, 1001));
        Check.due("washes", true, x.set(0, 2, 200));
        Check.due("washes above", false, x.set(0, 2, 201));
        Check.due("washes 0", false, x.set(0, 2, 0));
        Check.due("what 3", false, x.set(0, 3, 5));
        Check.due("what -1", false, x.set(0, -1, 5));
    }

    private static void promise6() {
        ClogHouse x = running(3, 7, 10, 2);
        x.cell(0, 20, 1000);
        Check.due("pore", 3, x.celled(0, 0, 0));
        Check.due("take", 7, x.celled(0, 0, 1));
        Check.due("width", 3, x.celled(0, 0, 2));
        Check.due("resist 10000/3/3", 1111, x.celled(0, 0, 3));
        Check.due("resist 10000/20/20", 25, x.celled(0, 1, 3));
        x.grain(2, 0, 1000);
        x.hours(1);
        Check.due("held", 10, x.celled(0, 0, 4));
        Check.due("width behind", 2, x.celled(0, 0, 2));
        Check.due("resist behind", 2500, x.celled(0, 0, 3));
        x.hours(2);
        Check.due("what is as wide as WIDTH lies on the CAKE", 10, x.celled(0, 0, 4));
        Check.due("what 5", -1, x.celled(0, 0, 5));
        Check.due("what -1", -1, x.celled(0, 0, -1));
        Check.due("cell 2", -1, x.celled(0, 2, 0));
        Check.due("cell -1", -1, x.celled(0, -1, 0));
        Check.due("filter 1", -1, x.celled(1, 0, 0));

        ClogHouse y = running(1, 1, 5, 0);
        y.grain(0, 0, 1000);
        y.hours(1);
        Check.due("shut: width", 0, y.celled(0, 0, 2));
        Check.due("shut: resist", -1, y.celled(0, 0, 3));
        Check.due("shut: held", 5, y.celled(0, 0, 4));
    }

    private static void promise7() {
        ClogHouse x = running(10, 1000, 1000, 0);
        x.grain(0, 0, 1000);
        x.grain(0, 2, 500);
        x.grain(0, 1, 500);
        x.hours(1);
        Check.due("held", 100, x.held(0, 0, 0, 0));
        Check.due("stuck", 0, x.held(0, 0, 0, 1));
        x.rule(0, Check.rulesOf(x, "w:1;u:500"));
        x.hours(1);
        Check.due("50 STAY, of 50 come off 50*500/1000*500/1000", 88, x.held(0, 0, 0, 0));
        Check.due("stuck", 50, x.held(0, 0, 0, 1));
        x.hours(1);
        Check.due("of 38 loose 19 STAY, of 19 come off 9*500/1000", 84, x.held(0, 0, 0, 0));
        Check.due("stuck again", 69, x.held(0, 0, 0, 1));
        Check.due("size", -1, x.held(0, 0, 8, 0));
        Check.due("size -1", -1, x.held(0, 0, -1, 0));
        Check.due("what", -1, x.held(0, 0, 0, 2));
        Check.due("what -1", -1, x.held(0, 0, 0, -1));
        Check.due("cell", -1, x.held(0, 1, 0, 0));
        Check.due("filter", -1, x.held(1, 0, 0, 0));
    }

    private static void promise8() {
        ClogHouse x = new ClogHouse();
        x.filter();
        for (int what = 0; what <= 8; what++) {
            Check.due("a new filter: told " + what, 0, x.told(0, what));
        }
        Check.due("what 9", -1, x.told(0, 9));
        Check.due("what -1", -1, x.told(0, -1));
        Check.due("filter 1", -1, x.told(1, 0));
        x.cell(0, 10, 10);
        x.cell(0, 5, 10);
        Check.due("bed", 500, x.told(0, 4));
        Check.due("cells", 2, x.told(0, 5));
        x.hours(1);
        Check.due("it RUNS without a STREAM", 1, x.told(0, 0));
        Check.due("but with no share", 0, x.told(0, 6));
    }

    private static void promise8LatestHour() {
        ClogHouse x = running(1, 1, 5, 0);
        x.come(3, 4);
        x.grain(0, 0, 1000);
        x.hours(1);
        Check.due("share", 10, x.told(0, 6));
        Check.due("push 10*10000/100", 1000, x.told(0, 7));
        Check.due("out", 0, x.told(0, 8));
        Check.due("cake", 4, x.told(0, 3));
        Check.due("BED: a cell is shut", -1, x.told(0, 4));
        Check.due("it still RUNS", 1, x.told(0, 0));
        x.hours(1);
        Check.due("now it is SHUT", 4, x.told(0, 0));
        Check.due("but it RAN in that HOUR: HOURS since", 2, x.told(0, 1));
        Check.due("without a share", 0, x.told(0, 6));
        Check.due("without a push", 0, x.told(0, 7));
        Check.due("it RAN", 1, x.count(2));
        x.hours(1);
        Check.due("SHUT, its HOURS stand still", 2, x.told(0, 1));
        Check.due("it did not run", 0, x.count(2));
    }

    private static void promise9() {
        ClogHouse x = new ClogHouse();
        Check.due("no filter", -1, x.push(0, 1));
        x.filter();
        Check.due("no cells", 0, x.push(0, 1000));
        x.cell(0, 10, 10);
        Check.due("100*1/100", 1, x.push(0, 1));
        Check.due("cut", 3, x.push(0, 3));
        Check.due("1000", 1000, x.push(0, 1000));
        Check.due("0", -1, x.push(0, 0));
        Check.due("1001", -1, x.push(0, 1001));
        ClogHouse y = new ClogHouse();
        y.filter();
        y.cell(0, 1, 10);
        Check.due("just in", 100000, y.push(0, 1000));
        y.cell(0, 20, 10);
        Check.due("beyond 100,000", -1, y.push(0, 1000));
        Check.due("below", 100 * 10025 / 100, y.push(0, 100));
        y.cell(0, 3, 10);
        Check.due("898*11136/100 is 100,001", -1, y.push(0, 898));
        Check.due("897*11136/100", 99889, y.push(0, 897));
    }

    /** The least push by trying every one, against a growing CAKE that presses more and more. */
    private static void promise9Least() {
        int[] presses = {1, 3, 10, 100, 1000};
        for (int press : presses) {
            ClogHouse x = running(2, 1000, 37, 5);
            x.set(0, 0, press);
            for (int hour = 1; hour <= 38; hour++) {
                x.hours(1);
                int bed = x.told(0, 4);
                int cake = x.told(0, 3);
                for (int q = 1; q <= 1000; q += 111) {
                    Check.due("push, press " + press + " q " + q, least(bed, cake, press, q), x.push(0, q));
                }
            }
        }
    }

    private static long least(long bed, long cake, long press, long q) {
        for (long p = 0; p <= 100000; p++) {
            if (p >= q * (bed + cake * (100 + p / press) / 100) / 100) {
                return p;
            }
        }
        return -1;
    }

    private static ClogHouse running(int pore, int take, int many, int size) {
        ClogHouse x = new ClogHouse();
        x.filter();
        x.cell(0, pore, take);
        x.stream(10);
        x.come(size, many);
        return x;
    }
}
