/** Promises 16 to 22 and 32 to 34: the STREAM, its HOURS, and where the GRAINS are led. */
public final class HoursTest {
    public static void main(String[] args) {
        promise16();
        promise17();
        promise18();
        shares();
        grainsLeftOver();
        cake();
        greatCakes();
        washes();
        bearAtFirst();
        wear();
        restsAndChanges();
        letters();
        noPush();
        promise19();
        promise20();
        promise21();
        allHours();
        promise22();
        promise32();
        promise33();
        promise34();
        Check.finish();
    }

    private static void promise16() {
        ClogHouse x = new ClogHouse();
        Check.due("0", false, x.stream(0));
        Check.due("1001", false, x.stream(1001));
        Check.due("below", false, x.stream(-5));
        Check.due("none yet", 0, x.count(9));
        Check.due("1", true, x.stream(1));
        Check.due("1000", true, x.stream(1000));
        Check.due("Q", 1000, x.count(9));
        Check.due("refused", false, x.stream(1001));
        Check.due("as it was", 1000, x.count(9));
    }

    private static void promise17() {
        ClogHouse x = new ClogHouse();
        Check.due("9999", true, x.come(7, 9999));
        Check.due("10000", false, x.come(7, 10000));
        Check.due("-1", false, x.come(7, -1));
        Check.due("size 8", false, x.come(8, 1));
        Check.due("size -1", false, x.come(-1, 1));
        x.hours(1);
        Check.due("nothing comes without Q", 0, x.history(1, 7, 0));
        Check.due("nothing goes round", 0, x.history(1, 7, 2));
        x.stream(1);
        x.hours(1);
        Check.due("as told last", 9999, x.history(2, 7, 0));
        Check.due("no filter: round", 9999, x.history(2, 7, 2));
        x.come(7, 0);
        x.hours(1);
        Check.due("none again", 0, x.history(3, 7, 0));
    }

    private static void promise18() {
        ClogHouse x = new ClogHouse();
        Check.due("-1", -1, x.hours(-1));
        Check.due("201", -1, x.hours(201));
        for (int i = 1; i <= 9; i++) {
            Check.due("200", 200 * i, x.hours(200));
        }
        Check.due("199", 1999, x.hours(199));
        Check.due("2", -1, x.hours(2));
        Check.due("as it was", 1999, x.count(0));
        Check.due("1", 2000, x.hours(1));
        Check.due("none more", -1, x.hours(1));
        Check.due("no hour", 2000, x.hours(0));
    }

    /** Weights 1,000,000 by BED: 100 gives 10,000, 400 gives 2,500. */
    private static void shares() {
        ClogHouse x = new ClogHouse();
        bed(x, 10, 1000);
        bed(x, 5, 1000);
        x.filter();
        bed(x, 10, 1000);
        x.stream(100);
        x.hours(1);
        Check.due("100*10000/22500 and one", 45, x.told(0, 6));
        Check.due("100*2500/22500", 11, x.told(1, 6));
        Check.due("no cells", 0, x.told(2, 6));
        Check.due("NEW still", 0, x.told(2, 0));
        Check.due("100*10000/22500", 44, x.told(3, 6));
        Check.due("three ran", 3, x.count(2));
        x.stream(1);
        x.hours(1);
        Check.due("all is left over", 1, x.told(0, 6));
        Check.due("none", 0, x.told(3, 6));
        Check.due("no share, but it RAN", 2, x.told(3, 1));
        Check.due("three ran again", 3, x.count(2));
    }

    private static void grainsLeftOver() {
        ClogHouse x = new ClogHouse();
        bed(x, 10, 1000);
        bed(x, 10, 1000);
        bed(x, 10, 1000);
        x.stream(2);
        x.grain(0, 0, 0);
        x.come(0, 7);
        x.hours(1);
        Check.due("share 0", 1, x.told(0, 6));
        Check.due("share 1", 1, x.told(1, 6));
        Check.due("share 2", 0, x.told(2, 6));
        Check.due("7*1/2 and one", 4, x.told(0, 8));
        Check.due("7*1/2", 3, x.told(1, 8));
        Check.due("no share, no grain", 0, x.told(2, 8));
        Check.due("all come OUT", 7, x.history(1, 0, 1));
    }

    private static void cake() {
        ClogHouse x = new ClogHouse();
        bed(x, 5, 10);
        x.stream(10);
        x.come(4, 10);
        x.come(5, 20);
        x.come(7, 30);
        x.grain(4, 0, 1000);
        x.hours(1);
        Check.due("SIZE of WIDTH or more", 50, x.told(0, 3));
        Check.due("the others", 10, x.held(0, 0, 4, 0));
        Check.due("not those of the CAKE", 0, x.held(0, 0, 5, 0));
        Check.due("WIDTH is 4 now", 4, x.celled(0, 0, 2));
        x.hours(1);
        Check.due("of SIZE 4 too", 110, x.told(0, 3));
        Check.due("its weight counts the CAKE", 10, x.told(0, 6));

        ClogHouse y = new ClogHouse();
        bed(y, 10, 1000);
        y.cell(0, 3, 10);
        y.stream(10);
        y.come(3, 50);
        y.grain(3, 0, 7);
        y.hours(1);
        Check.due("7/7 thousandths of 50", 0, y.held(0, 0, 3, 0));
        Check.due("WIDTH or more: all", 50, y.held(0, 1, 3, 0));
        Check.due("no CAKE by a lower CELL", 0, y.told(0, 3));
        y.hours(1);
        Check.due("its lower CELL is shut", 4, y.told(0, 0));
        Check.due("nothing more came to it", 50, y.held(0, 1, 3, 0));
        Check.due("round", 50, y.history(2, 3, 2));
    }

    /** Weight is 1 up to 1,000,000 of BED and CAKE, and 0 above. */
    private static void greatCakes() {
        ClogHouse x = new ClogHouse();
        bed(x, 1, 1000);
        x.set(0, 0, 1000);
        x.stream(1);
        x.come(7, 9999);
        x.hours(99);
        Check.due("1,000,000 by 999,901", 9999 * 99, x.told(0, 3));
        bed(x, 1, 1000);
        x.set(1, 0, 1000);
        x.stream(300);
        x.come(7, 0);
        x.hours(1);
        Check.due("1 of 101, cut, and one of what is left over", 3, x.told(0, 6));
        Check.due("100 of 101", 297, x.told(1, 6));
        x.hand(1, 1);
        x.stream(1);
        x.come(7, 9999);
        x.hours(1);
        Check.due("its share", 1, x.told(0, 6));
        Check.due("with BED above a million", 9999 * 100, x.told(0, 3));
        x.hours(1);
        Check.due("weight 0: no share", 0, x.told(0, 6));
        Check.due("but it is not SHUT", 1, x.told(0, 0));
        Check.due("all go ROUND", 9999, x.history(102, 7, 2));
    }

    private static void bearAtFirst() {
        ClogHouse x = new ClogHouse();
        bed(x, 5, 5);
        x.rule(0, Check.rulesOf(x, "w:1;u:500"));
        x.hours(1);
        Check.due("500 is borne", 5, x.celled(0, 0, 0));
        x.rule(0, Check.rulesOf(x, "w:1;u:501"));
        x.hours(1);
        Check.due("501 is not", 6, x.celled(0, 0, 0));
    }

    private static void washes() {
        ClogHouse x = new ClogHouse();
        bed(x, 19, 1000);
        x.set(0, 1, 600);
        x.stream(1);
        x.come(0, 1900);
        x.grain(0, 0, 1000);
        x.grain(0, 2, 0);
        x.hours(1);
        Check.due("1900*(1000/19)/1000", 98, x.held(0, 0, 0, 0));
        x.rule(0, Check.rulesOf(x, "w:1;u:600"));
        x.hours(1);
        Check.due("98*600/1000*600/1000 come off", 98 - 34, x.held(0, 0, 0, 0));
        Check.due("600 is not above BEAR", 19, x.celled(0, 0, 0));
        x.rule(0, Check.rulesOf(x, "w:1;u:601"));
        x.hours(2);
        Check.due("20 at most", 20, x.celled(0, 0, 0));
        Check.due("washed thrice", 3, x.told(0, 2));
        Check.due("HOURS since", 0, x.told(0, 1));
        int before = x.held(0, 0, 0, 0);
        x.rule(0, Check.rulesOf(x, "w:1;u:0-5"));
        x.hours(1);
        Check.due("u is 0 at least", before, x.held(0, 0, 0, 0));
        x.rule(0, Check.rulesOf(x, "w:1;u:9999"));
        x.hours(1);
        Check.due("u is 1,000 at most", before - before * 600 / 1000, x.held(0, 0, 0, 0));
        x.hand(0, 0);
        Check.due("PORES as they were told", 19, x.celled(0, 0, 0));
    }

    private static void wear() {
        ClogHouse x = new ClogHouse();
        bed(x, 5, 10);
        x.set(0, 2, 2);
        x.rule(0, Check.rulesOf(x, "w:1"));
        x.hours(2);
        Check.due("it bears two", 2, x.told(0, 0));
        x.hours(1);
        Check.due("not a third", 5, x.told(0, 0));
        Check.due("two were made", 2, x.told(0, 2));
        x.rule(0, -1);
        x.hours(1);
        Check.due("it stays so", 5, x.told(0, 0));
        Check.due("it can't go on", false, x.hand(0, 2));
        x.hand(0, 0);
        Check.due("changed", 0, x.told(0, 0));
        Check.due("none made", 0, x.told(0, 2));
        x.hours(1);
        Check.due("it runs", 1, x.told(0, 0));
    }

    private static void restsAndChanges() {
        ClogHouse x = new ClogHouse();
        bed(x, 5, 1000);
        x.stream(5);
        x.come(7, 10);
        x.hours(3);
        Check.due("cake", 30, x.told(0, 3));
        x.rule(0, Check.rulesOf(x, "r:1"));
        x.hours(1);
        Check.due("rests", 3, x.told(0, 0));
        Check.due("HOURS since go on", 4, x.told(0, 1));
        Check.due("it did not run", 0, x.count(2));
        Check.due("round", 10, x.history(4, 7, 2));
        x.rule(0, Check.rulesOf(x, "r:1;w:1;c:k>0?1"));
        x.hours(1);
        Check.due("c ahead of w ahead of r: changed, it runs", 1, x.told(0, 0));
        Check.due("HOURS since", 1, x.told(0, 1));
        Check.due("carried off", 30, x.led(7, 3));
        Check.due("a new cake", 10, x.told(0, 3));
        x.rule(0, Check.rulesOf(x, "r:1;w:0-1"));
        x.hours(1);
        Check.due("w ahead of r, unlike 0", 2, x.told(0, 0));
        Check.due("the CAKE is washed out", 10, x.led(7, 2));
        Check.due("no cake", 0, x.told(0, 3));
    }

    /** Each letter as its rule sees it: the HOUR ahead for p and o, what stands for the others. */
    private static void letters() {
        ClogHouse x = new ClogHouse();
        bed(x, 10, 1000);
        bed(x, 10, 1000);
        x.stream(20);
        x.come(0, 100);
        x.come(7, 0);
        x.hours(2);
        Check.due("push of the hour", 10, x.told(1, 7));
        Check.due("out of it", 49, x.told(1, 8));
        x.rule(1, Check.rulesOf(x, "r:p=10&h=2&o=49&i=1&n=0&k=0?1"));
        x.hours(1);
        Check.due("all letters are so", 3, x.told(1, 0));
        x.rule(1, Check.rulesOf(x, "r:p=0&h=3&o=0&i=1?1"));
        x.hours(1);
        Check.due("it did not RUN in the HOUR ahead", 3, x.told(1, 0));
        x.rule(1, Check.rulesOf(x, "w:n<2?1;r:n=2?1"));
        x.hours(2);
        Check.due("washed twice", 2, x.told(1, 2));
        x.hours(1);
        Check.due("n counts them", 3, x.told(1, 0));
        x.rule(1, Check.rulesOf(x, "w:1;u:n=2&h=1?1000"));
        x.grain(0, 2, 0);
        int before = x.held(1, 0, 0, 0);
        x.hours(1);
        Check.due("u reads what was ahead of the wash", before - before * 600 / 1000, x.held(1, 0, 0, 0));
        Check.due("and PORE is 1 greater", 11, x.celled(1, 0, 0));
    }

    private static void noPush() {
        ClogHouse x = new ClogHouse();
        bed(x, 1, 1000);
        x.cell(0, 1, 1000);
        x.stream(1000);
        x.come(3, 9);
        x.hours(1);
        Check.due("SHUT behind the HOUR", 4, x.told(0, 0));
        Check.due("its share", 1000, x.told(0, 6));
        Check.due("no push", 0, x.told(0, 7));
        Check.due("it RAN", 1, x.count(2));
        Check.due("HOURS since", 1, x.told(0, 1));
        Check.due("its grains went round", 9, x.history(1, 3, 2));
        Check.due("no cake", 0, x.told(0, 3));
        Check.due("no best hour", -1, x.ripe(0));
        x.stream(100);
        x.hand(0, 2);
        x.hours(1);
        Check.due("it goes on with less", 1, x.told(0, 0));
        Check.due("push", 20000, x.told(0, 7));
    }

    private static void promise19() {
        ClogHouse x = new ClogHouse();
        Check.due("no filter", false, x.hand(0, 0));
        x.filter();
        Check.due("what 3", false, x.hand(0, 3));
        Check.due("what -1", false, x.hand(0, -1));
        Check.due("not shut", false, x.hand(0, 2));
        Check.due("shut", true, x.hand(0, 1));
        Check.due("shut already", false, x.hand(0, 1));
        Check.due("is shut", 4, x.told(0, 0));
        Check.due("goes on", true, x.hand(0, 2));
        Check.due("is new", 0, x.told(0, 0));
        x.hand(0, 1);
        Check.due("changed while shut", true, x.hand(0, 0));
        Check.due("is new", 0, x.told(0, 0));
        x.cell(0, 5, 1000);
        x.stream(5);
        x.come(2, 100);
        x.come(6, 3);
        x.hours(2);
        Check.due("held", 2 * (100 * 66 / 1000), x.led(2, 1));
        x.hand(0, 1);
        x.hand(0, 2);
        Check.due("it goes on with all that it holds", 12, x.held(0, 0, 2, 0));
        Check.due("and its HOURS", 2, x.told(0, 1));
        x.hand(0, 0);
        Check.due("carried off", 12, x.led(2, 3));
        Check.due("the CAKE too", 6, x.led(6, 3));
        Check.due("empty", 0, x.celled(0, 0, 4));
        Check.due("HOURS since", 0, x.told(0, 1));
        Check.due("the latest HOUR is as it was", 5, x.told(0, 6));
    }

    private static void promise20() {
        ClogHouse x = new ClogHouse();
        bed(x, 5, 1000);
        x.stream(5);
        x.come(2, 100);
        x.hours(1);
        Check.due("came", 100, x.history(1, 2, 0));
        Check.due("out", 94, x.history(1, 2, 1));
        Check.due("round", 0, x.history(1, 2, 2));
        Check.due("other size", 0, x.history(1, 3, 0));
        Check.due("hour 0", -1, x.history(0, 2, 0));
        Check.due("hour ahead of now", -1, x.history(2, 2, 0));
        Check.due("size", -1, x.history(1, 8, 0));
        Check.due("size -1", -1, x.history(1, -1, 0));
        Check.due("what", -1, x.history(1, 2, 3));
        Check.due("what -1", -1, x.history(1, 2, -1));
        x.come(2, 7);
        for (int i = 0; i < 9; i++) {
            x.hours(200);
        }
        x.hours(199);
        Check.due("the first still", 100, x.history(1, 2, 0));
        Check.due("the last", 7, x.history(2000, 2, 0));
        Check.due("none behind", -1, x.history(2001, 2, 0));
    }

    private static void promise21() {
        ClogHouse x = new ClogHouse();
        x.stream(5);
        x.come(2, 10);
        x.come(5, 4);
        x.hours(3);
        x.come(5, 6);
        x.hours(3);
        Check.due("from size 0", 1, x.breaks(0, 13));
        Check.due("more than 14", 4, x.breaks(0, 14));
        Check.due("more than 15", 4, x.breaks(2, 15));
        Check.due("never", -1, x.breaks(0, 16));
        Check.due("greater ones alone", 4, x.breaks(3, 5));
        Check.due("of 5", 1, x.breaks(5, 3));
        Check.due("above", -1, x.breaks(6, 0));
        Check.due("m below 0", -1, x.breaks(0, -1));
        Check.due("size", -1, x.breaks(8, 0));
        Check.due("size -1", -1, x.breaks(-1, 0));
        Check.due("most", -1, x.breaks(0, Integer.MAX_VALUE));
        bed(x, 10, 1000);
        x.come(2, 500);
        x.hours(1);
        Check.due("500*(200/8)/1000 are held", 488, x.history(7, 2, 1));
        Check.due("OUT counts as ROUND does: 488 and 6", 7, x.breaks(1, 493));
        Check.due("not more", -1, x.breaks(1, 494));
    }

    /** Promises 20 and 21 over all 2,000 HOURS: their rows stand from the first to the last (some 270 calls). */
    private static void allHours() {
        ClogHouse x = new ClogHouse();
        bed(x, 20, 1000);
        x.stream(7);
        x.grain(3, 0, 0);
        x.grain(7, 0, 0);
        for (int block = 1; block <= 10; block++) {
            x.come(3, 100 * block);
            x.come(7, block);
            if (block == 6) {
                Check.due("SHUT behind HOUR 1,000", true, x.hand(0, 1));
            }
            Check.due("200 more, but for the last", 200 * block - block / 10, x.hours(200 - block / 10));
        }
        x.come(0, 9999);
        x.come(3, 5000);
        Check.due("the last HOUR", 2000, x.hours(1));
        int[] asked = {1, 2, 50, 51, 100, 101, 199, 200, 201, 400, 401, 800, 801, 999, 1000, 1001, 1599, 1600, 1601,
            1799, 1801, 1998, 1999};
        for (int hour : asked) {
            int block = (hour + 199) / 200;
            for (int size : new int[] {0, 3, 7}) {
                int many = size == 3 ? 100 * block : size == 7 ? block : 0;
                Check.due("came in " + hour, many, x.history(hour, size, 0));
                Check.due("came OUT in " + hour, block < 6 ? many : 0, x.history(hour, size, 1));
                Check.due("went ROUND in " + hour, block < 6 ? 0 : many, x.history(hour, size, 2));
            }
        }
        ofTheLast(x);
        for (int block = 1; block <= 10; block++) {
            Check.due("more than in the block ahead", 200 * block - 199, x.breaks(1, 101 * (block - 1)));
            Check.due("of 7 alone", 200 * block - 199, x.breaks(7, block - 1));
        }
        Check.due("in the last one alone", 2000, x.breaks(1, 1010));
        Check.due("1009 are not more than 1009", 1801, x.breaks(2, 1009));
        Check.due("all of the last one", 2000, x.breaks(0, 9999 + 5000 + 10 - 1));
        Check.due("never more", -1, x.breaks(0, 9999 + 5000 + 10));
        Check.due("never more of 7", -1, x.breaks(7, 10));
    }

    private static void ofTheLast(ClogHouse x) {
        Check.due("0 came in the last", 9999, x.history(2000, 0, 0));
        Check.due("0 came OUT in the last", 0, x.history(2000, 0, 1));
        Check.due("0 went ROUND in the last", 9999, x.history(2000, 0, 2));
        Check.due("3 went ROUND in the last", 5000, x.history(2000, 3, 2));
        Check.due("7 came in the last", 10, x.history(2000, 7, 0));
        Check.due("7 went ROUND in the last", 10, x.history(2000, 7, 2));
        Check.due("ahead of the first", -1, x.history(0, 3, 0));
        Check.due("behind the last", -1, x.history(2001, 3, 0));
        Check.due("no HOUR more", -1, x.hours(1));
        Check.due("and the first is as it was", 100, x.history(1, 3, 1));
        int sum = 0;
        for (int block = 1; block <= 10; block++) {
            sum += 200 * 100 * block;
        }
        Check.due("LED of 3 is the sum of all HOURS", sum - 1000 + 5000, x.led(3, 0));
    }

    private static void promise22() {
        ClogHouse x = new ClogHouse();
        Check.due("no such one", -1, x.ripe(0));
        bed(x, 10, 20);
        Check.due("none", -1, x.ripe(0));
        x.stream(10);
        x.hours(2);
        Check.due("without grains none", -1, x.ripe(0));
        x.come(3, 100);
        x.hours(1);
        Check.due("the third", 3, x.ripe(0));
        x.hours(1);
        Check.due("as many came OUT again", x.history(3, 3, 1), x.history(4, 3, 1));
        Check.due("of several the first", 3, x.ripe(0));
        x.hours(35);
        int best = 3;
        for (int hour = 3; hour <= 39; hour++) {
            if (x.history(hour, 3, 2) == 0 && x.history(hour, 3, 1) < x.history(best, 3, 1)) {
                best = hour;
            }
        }
        Check.due("it ripens as it clogs", best, x.ripe(0));
        Check.due("not in the third", 1, best > 3 ? 1 : 0);
        x.come(3, 0);
        x.hours(1);
        Check.due("an HOUR without grains is none", best, x.ripe(0));
        Check.due("-1", -1, x.ripe(-1));
    }

    private static void promise32() {
        ClogHouse x = new ClogHouse();
        bed(x, 6, 30);
        bed(x, 4, 30);
        x.rule(0, Check.rulesOf(x, "w:h>4?1;u:700"));
        x.rule(1, Check.rulesOf(x, "c:h>6?1"));
        x.stream(50);
        for (int size = 0; size < 8; size++) {
            x.come(size, 10 + 9 * size);
        }
        x.hours(60);
        for (int size = 0; size < 8; size++) {
            Check.due("came", 60 * (10 + 9 * size), x.led(size, 0));
            int sum = 0;
            for (int what = 1; what <= 5; what++) {
                sum += x.led(size, what);
            }
            Check.due("each grain is led to where it is", x.led(size, 0), sum);
        }
        Check.due("some were washed out", 1, x.led(5, 2) > 0 ? 1 : 0);
        Check.due("some were carried off", 1, x.led(3, 3) > 0 ? 1 : 0);
        Check.due("what 6", -1, x.led(0, 6));
        Check.due("what -1", -1, x.led(0, -1));
        Check.due("size 8", -1, x.led(8, 0));
        Check.due("size -1", -1, x.led(-1, 0));
    }

    private static void promise33() {
        ClogHouse x = new ClogHouse();
        bed(x, 10, 1000);
        bed(x, 4, 50);
        x.cell(1, 7, 9);
        x.filter();
        x.stream(50);
        x.come(1, 400);
        x.come(6, 40);
        x.rule(1, Check.rulesOf(x, "w:h>1?1;u:900"));
        for (int i = 0; i < 12; i++) {
            Check.due("digest", digestOf(x), x.digest());
            x.hours(1);
        }
    }

    private static int digestOf(ClogHouse x) {
        int d = 31 * 7 + x.count(0);
        for (int f = 0; f < x.count(1); f++) {
            for (int what = 0; what <= 2; what++) {
                d = 31 * d + x.told(f, what);
            }
            for (int size = 0; size < 8; size++) {
                // the CAKE here is of SIZES 6 and 1 alone: it is what is held but in no CELL
                d = 31 * d + cakeOf(x, f, size);
            }
            for (int c = 0; c < x.told(f, 5); c++) {
                d = 31 * d + x.celled(f, c, 0);
                for (int size = 0; size < 8; size++) {
                    d = 31 * (31 * d + x.held(f, c, size, 0)) + x.held(f, c, size, 1);
                }
            }
        }
        return d;
    }

    /** SIZE 6 is the only one that lies on a CAKE in the run above. */
    private static int cakeOf(ClogHouse x, int filter, int size) {
        return size == 6 ? x.told(filter, 3) : 0;
    }

    private static void promise34() {
        ClogHouse x = new ClogHouse();
        bed(x, 10, 10);
        bed(x, 10, 10);
        bed(x, 10, 10);
        x.hand(2, 1);
        x.set(1, 2, 1);
        x.rule(1, Check.rulesOf(x, "w:1"));
        x.layer(3, 3);
        x.layer(3, 4);
        x.gauge(0, 0, 1, 1);
        Check.feed(x, "abcd");
        x.stream(77);
        x.hours(3);
        int[] want = {3, 3, 1, 1, 1, 1, 2, 1, 4, 77};
        for (int what = 0; what < want.length; what++) {
            Check.due("count " + what, want[what], x.count(what));
        }
        x.hand(0, 1);
        Check.due("it RAN, though it is SHUT by now", 1, x.count(2));
        Check.due("two are shut", 2, x.count(3));
        Check.due("10", -1, x.count(10));
        Check.due("-1", -1, x.count(-1));
    }

    private static void bed(ClogHouse x, int pore, int take) {
        x.cell(x.filter(), pore, take);
    }
}
