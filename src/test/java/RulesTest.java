/** Promises 10 to 15: the TAPE, FAULT, RULES and WORTH. */
public final class RulesTest {
    public static void main(String[] args) {
        promise10();
        promise11();
        promise12();
        promise12Depth();
        promise13();
        promise14();
        promise15();
        promise15Bounds();
        Check.finish();
    }

    private static void promise10() {
        ClogHouse x = new ClogHouse();
        Check.due("all twenty", 20, x.feed(-1, -1, -1, -1, -1));
        Check.due("zeros are left out", 22, x.feed(0x00770000, 0, 0x0000003A, 0, 0));
        Check.due("nothing", 22, x.feed(0, 0, 0, 0, 0));
        for (int i = 0; i < 6; i++) {
            x.feed(-1, -1, -1, -1, -1);
        }
        Check.due("142", 142, x.count(8));
        Check.due("more than 160", -1, x.feed(-1, -1, -1, -1, -1));
        Check.due("nothing came", 142, x.count(8));
        Check.due("160 alone", 160, x.feed(-1, -1, -1, -1, 0x01010000));
        Check.due("one more", -1, x.feed(0, 0, 0, 0, 1));
        Check.due("none more", 160, x.feed(0, 0, 0, 0, 0));

        ClogHouse y = new ClogHouse();
        y.feed(0x773A3132, 0, 0, 0, 0);
        int rules = y.rules();
        Check.due("the highest byte first", 12, y.worth(rules, 'w', 0, 0, 0, 0, 0, 0));
    }

    private static void promise11() {
        ClogHouse x = new ClogHouse();
        Check.feed(x, "w:1;q");
        Check.due("n -1", false, x.end(-1));
        Check.due("n 6", false, x.end(6));
        Check.due("fault", 4, x.fault());
        Check.due("all", true, x.end(5));
        Check.due("five", 5, x.count(8));
        Check.due("three", true, x.end(3));
        Check.due("no fault", -1, x.fault());
        Check.due("no more then", false, x.end(4));
        Check.due("none", true, x.end(0));
        Check.due("empty", 0, x.count(8));
    }

    private static void fault(String text, int want) {
        Check.due("fault of <" + text + ">", want, Check.faultOf(text));
    }

    private static void promise12() {
        String[] good = {"w:1", " w : 1 ", "r:p;c:h;u:o;w:i;w:n;w:k", "w:[1]", "w:[[p+1]*2]/3", "w:p=1?2",
            "w:p+1*2<3&h>2|!o=1?4-5", "w:(p=1)?1", "w:((p=1|h=2)&!(o=3))?[1]", "w:!!p=1?0", "w:9999", "w:[p]=[h]?1",
            "w:p = h & ( o < 12 ) ? 3 ; u : 4"};
        for (String text : good) {
            fault(text, -1);
        }
        fault("", 0);
        fault("   ", 3);
        fault("x", 0);
        fault("W:1", 0);
        fault("w1", 1);
        fault("w:", 2);
        fault("w:;", 2);
        fault("w:1;;", 4);
        fault("w:1;", 4);
        fault("w:1; ", 5);
        fault("w:12 3", 5);
        fault("w:1 2345", 4);
        fault("w:00000", 6);
        fault("w:pp", 3);
        fault("w:-1", 2);
        fault("w:1--1", 4);
        fault("w:1+", 4);
        fault("w:[1", 4);
        fault("w:[1)", 4);
        fault("w:[p=1]", 4);
        fault("w:(1", 4);
        fault("w:(1)", 4);
        fault("w:(1=1", 6);
        fault("w:(1=1]", 6);
        fault("w:(1=1)", 7);
        fault("w:(1=1)+1", 7);
        fault("w:(1=1)=1", 7);
        fault("w:!1", 4);
        fault("w:!1;", 4);
        fault("w:1=1", 5);
        fault("w:1=1;", 5);
        fault("w:1=1=1", 5);
        fault("w:1=1?", 6);
        fault("w:1=1?1=1", 7);
        fault("w:1=1?1?1", 7);
        fault("w:1=1?(1", 6);
        fault("w:1=1?!1", 6);
        fault("w:1?1", 3);
        fault("w:1&1", 3);
        fault("w:1=1&", 6);
        fault("w:1=1&1?1", 7);
        fault("w:1=1|;", 6);
        fault("w:1)", 3);
        fault("w:1]", 3);
        fault("w:1\t", 3);
        fault("w:1" + (char) 233, 3);
        fault("w:1" + (char) 1, 3);
        fault((char) 1 + "", 0);
    }

    private static void promise12Depth() {
        fault("w:[[[[[[1]]]]]]", -1);
        fault("w:[[[[[[[1]]]]]]]", 8);
        fault("w:((((((1=1))))))?1", -1);
        fault("w:(((((((1=1)))))))?1", 8);
        fault("w:!!!!!!1=1?1", -1);
        fault("w:!!!!!!!1=1?1", 8);
        fault("w:!(!(![1]=1))?1", -1);
        fault("w:!(!(!([1]=1)))?1", 8);
        fault("w:![1]=[[[[[1]]]]]?[[[[[[1]]]]]]", -1);
        fault("w:![1]=[[[[[[1]]]]]]?1", 12);
        fault("w:!1=1&!!!!!!1=1?1", -1);
        fault("w:[1]*[[[[[[1]]]]]]-[1]", -1);
        fault("w:1=[[[[[[1]]]]]]?1", -1);
        fault("w:1=[[[[[[[1]]]]]]]?1", 10);
    }

    private static void promise13() {
        ClogHouse x = new ClogHouse();
        Check.due("empty", -1, x.rules());
        Check.feed(x, "w:1;");
        Check.due("a fault", -1, x.rules());
        Check.due("the tape is as it was", 4, x.count(8));
        x.end(3);
        for (int i = 0; i < 12; i++) {
            Check.due("rules", i, Check.rulesOf(x, "w:" + i));
            Check.due("the tape is empty", 0, x.count(8));
        }
        Check.feed(x, "w:1");
        Check.due("there are twelve", -1, x.rules());
        Check.due("the tape is as it was", 3, x.count(8));
        Check.due("twelve", 12, x.count(5));
        for (int i = 0; i < 12; i++) {
            Check.due("kept", i, x.worth(i, 'w', 0, 0, 0, 0, 0, 0));
        }
    }

    private static void promise14() {
        ClogHouse x = new ClogHouse();
        x.filter();
        Check.due("none", true, x.rule(0, -1));
        Check.due("no rules", false, x.rule(0, 0));
        Check.rulesOf(x, "w:1");
        Check.due("rules", true, x.rule(0, 0));
        Check.due("no such rules", false, x.rule(0, 1));
        Check.due("-2", false, x.rule(0, -2));
        Check.due("no such filter", false, x.rule(1, 0));
        Check.due("no such filter", false, x.rule(-1, -1));
        x.cell(0, 5, 5);
        x.hours(1);
        Check.due("washed", 2, x.told(0, 0));
        x.rule(0, -1);
        x.hours(1);
        Check.due("without rules it runs", 1, x.told(0, 0));
    }

    private static void worth(String text, char label, int want) {
        ClogHouse x = new ClogHouse();
        int rules = Check.rulesOf(x, text);
        Check.due("worth " + label + " of <" + text + ">", want, x.worth(rules, label, 2, 3, 5, 7, 11, 13));
    }

    private static void promise15() {
        worth("w:p;r:h;c:o;u:i", 'w', 2);
        worth("w:p;r:h;c:o;u:i", 'r', 3);
        worth("w:p;r:h;c:o;u:i", 'c', 5);
        worth("w:p;r:h;c:o;u:i", 'u', 7);
        worth("w:n*1000+k", 'w', 11013);
        worth("w:1", 'u', 0);
        worth("w:p>2?1;w:h=3?2;w:3", 'w', 2);
        worth("w:p>2?1;w:h=4?2;w:3", 'w', 3);
        worth("w:p>2?1", 'w', 0);
        worth("w:1-2-3", 'w', -4);
        worth("w:2+3*4", 'w', 14);
        worth("w:[2+3]*4", 'w', 20);
        worth("w:7/2*2", 'w', 6);
        worth("w:[1-8]/2", 'w', -3);
        worth("w:7/0", 'w', 0);
        worth("w:1+7/[p-2]*9", 'w', 1);
        worth("w:1=1|1=2&1=2?5", 'w', 5);
        worth("w:(1=1|1=2)&1=2?5", 'w', 0);
        worth("w:!1=2&1=2?5", 'w', 0);
        worth("w:!(1=2&1=2)?5", 'w', 5);
        worth("w:!!1=1?5", 'w', 5);
        worth("w:1<1?5;w:2>1?6", 'w', 6);
        worth("w:0009+1", 'w', 10);
        ClogHouse x = new ClogHouse();
        Check.due("no rules", true, Check.throwsNoSuch(x, 0, 'w'));
        Check.rulesOf(x, "w:1");
        Check.due("there are rules", false, Check.throwsNoSuch(x, 0, 'w'));
        Check.due("rules 1", true, Check.throwsNoSuch(x, 1, 'w'));
        Check.due("rules -1", true, Check.throwsNoSuch(x, -1, 'w'));
        Check.due("no label", true, Check.throwsNoSuch(x, 0, 'p'));
        Check.due("label 0", true, Check.throwsNoSuch(x, 0, 0));
        Check.due("label above a char", true, Check.throwsNoSuch(x, 0, 65536 + 'w'));
        Check.due("label below 0", true, Check.throwsNoSuch(x, 0, 'w' - 65536));
    }

    private static void promise15Bounds() {
        worth("w:9999*9999", 'w', 1000000);
        worth("w:9999*9999-1", 'w', 999999);
        worth("w:0-9999*9999", 'w', -1000000);
        worth("w:0-9999*9999-5+1", 'w', -999999);
        worth("w:9999*9999/1000", 'w', 1000);
        worth("w:[9999*9999]+[9999*9999]-1", 'w', 999999);
        worth("w:9999*9999=1000*1000?1", 'w', 1);
        ClogHouse x = new ClogHouse();
        int rules = Check.rulesOf(x, "w:p;r:p+h;c:p*h;u:p/h");
        int most = Integer.MAX_VALUE;
        int least = Integer.MIN_VALUE;
        Check.due("no sign, no bound", most, x.worth(rules, 'w', most, 0, 0, 0, 0, 0));
        Check.due("sum", 1000000, x.worth(rules, 'r', most, most, 0, 0, 0, 0));
        Check.due("product", 1000000, x.worth(rules, 'c', least, least, 0, 0, 0, 0));
        Check.due("product below", -1000000, x.worth(rules, 'c', least, most, 0, 0, 0, 0));
        Check.due("the least by -1", 1000000, x.worth(rules, 'u', least, -1, 0, 0, 0, 0));
        Check.due("by 0", 0, x.worth(rules, 'u', least, 0, 0, 0, 0, 0));
    }
}
