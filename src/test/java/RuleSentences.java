/** Promises 10 to 15, a test for each sentence that names a bound, an end, a blank or a refused call. */
final class RuleSentences {
    private static final int FULL = 0x77777777;

    private RuleSentences() {
    }

    static void all() {
        feedBytes();
        feedTooMany();
        endBounds();
        clauses();
        conditions();
        sums();
        firstSign();
        blanks();
        depth();
        faultAtAnyByte();
        faultOfLongTapes();
        rulesBounds();
        ruleBounds();
        worthSigns();
        worthCuts();
        worthOfClauses();
        worthLetters();
        worthRefused();
    }

    private static void fault(int want, String text) {
        Check.due("fault of <" + text + ">", want, Check.faultOf(text));
    }

    private static void feedBytes() {
        Check.says(10, "Twenty bytes more come to the TAPE (of each number the highest first; bytes of 0 are left out): how many it has.");
        ClogHouse x = new ClogHouse();
        Check.due("twenty", 20, x.feed(FULL, FULL, FULL, FULL, FULL));
        Check.due("twenty more", 40, x.feed(-1, -1, -1, -1, -1));
        Check.due("none of them is left", 40, x.feed(0, 0, 0, 0, 0));
        Check.due("one in each place", 44, x.feed(0x01000000, 0x00010000, 0x00000100, 0x00000001, 0));
        Check.due("the least and the greatest number", 49, x.feed(Integer.MIN_VALUE, Integer.MAX_VALUE, 0, 0, 0));
        Check.due("count(8)", 49, x.count(8));
        ClogHouse y = new ClogHouse();
        // w:1-  2;r  :345  6;u:  7+p-h, each number with its bytes of 0 at another place
        y.feed(0x773A312D, 0x00323B00, 0x723A0033, 0x00003435, 0x36000000);
        y.feed(0x3B000000, 0x0000753A, 0x37002B00, 0x70000000, 0x002D0068);
        Check.due("fault", -1, y.fault());
        Check.due("bytes", 20, y.count(8));
        int rules = y.rules();
        Check.due("w:1-2", -1, y.worth(rules, 'w', 0, 0, 0, 0, 0, 0));
        Check.due("r:3456", 3456, y.worth(rules, 'r', 0, 0, 0, 0, 0, 0));
        Check.due("u:7+p-h", 7 + 50 - 3, y.worth(rules, 'u', 50, 3, 0, 0, 0, 0));
    }

    private static void feedTooMany() {
        Check.says(10, "NONE: more than 160.");
        ClogHouse x = new ClogHouse();
        for (int i = 1; i <= 7; i++) {
            x.feed(FULL, FULL, FULL, FULL, FULL);
        }
        Check.due("159", 159, x.feed(FULL, FULL, FULL, FULL, 0x77777700));
        Check.due("two more", -1, x.feed(0x77770000, 0, 0, 0, 0));
        Check.due("none of them came", 159, x.count(8));
        Check.due("160", 160, x.feed(0, 0, 0x00007700, 0, 0));
        Check.due("161", -1, x.feed(0, 0, 0, 0, 0x77));
        Check.due("twenty", -1, x.feed(FULL, FULL, FULL, FULL, FULL));
        Check.due("none of 0 alone", 160, x.feed(0, 0, 0, 0, 0));
        Check.due("count(8)", 160, x.count(8));
        ClogHouse y = new ClogHouse();
        for (int i = 1; i <= 8; i++) {
            Check.due("twenty more", 20 * i, y.feed(FULL, FULL, FULL, FULL, FULL));
        }
        y.end(159);
        int[] row = new int[5];
        for (int i = 0; i < 20; i++) {
            for (int j = i + 1; j < 20; j++) {
                java.util.Arrays.fill(row, 0);
                row[i / 4] |= 1 << (24 - 8 * (i % 4));
                row[j / 4] |= 1 << (24 - 8 * (j % 4));
                int answer = y.feed(row[0], row[1], row[2], row[3], row[4]);
                Check.due("159 and bytes " + i + " and " + j, -1, answer);
            }
        }
        Check.due("none of them came", 159, y.count(8));
    }

    private static void endBounds() {
        Check.says(11, "The TAPE has its first n bytes alone.");
        ClogHouse x = new ClogHouse();
        Check.due("of an empty one: 0", true, x.end(0));
        Check.feed(x, "w:1;r:2");
        Check.due("all of them", true, x.end(7));
        Check.due("count(8)", 7, x.count(8));
        Check.due("six", true, x.end(6));
        Check.due("fault", 6, x.fault());
        Check.due("three", true, x.end(3));
        Check.due("fault", -1, x.fault());
        Check.due("more come behind them", 6, Check.feed(x, "234"));
        Check.due("rules", 0, x.rules());
        Check.due("w:1234", 1234, x.worth(0, 'w', 0, 0, 0, 0, 0, 0));
        Check.says(11, "False: n.");
        Check.due("the TAPE is empty: 1", false, x.end(1));
        Check.feed(x, "w:1;r:2");
        Check.due("8", false, x.end(8));
        Check.due("-1", false, x.end(-1));
        Check.due("161", false, x.end(161));
        Check.due("the least", false, x.end(Integer.MIN_VALUE));
        Check.due("the greatest", false, x.end(Integer.MAX_VALUE));
        Check.due("as it was", 7, x.count(8));
        x.end(4);
        Check.due("what was cut off does not come back", false, x.end(5));
        Check.due("none", true, x.end(0));
        Check.due("empty", 0, x.count(8));
    }

    private static void clauses() {
        Check.says(12, "CLAUSES with ; between, one at least: a LABEL (w r c u), a : , perhaps CONDITION ?, then SUM.");
        fault(0, "");
        fault(-1, "w:1");
        fault(-1, "r:1;c:2;u:3;w:4;w:5");
        fault(0, ";w:1");
        fault(3, "w:1,r:2");
        fault(3, "w:1r:2");
        fault(4, "w:1;;r:2");
        fault(4, "w:1;");
        fault(4, "w:1;1");
        for (char c = 1; c < 256; c++) {
            boolean label = "wrcu".indexOf(c) >= 0;
            Check.due("fault of byte " + (int) c + " and :1", label ? -1 : c == ' ' ? 1 : 0, Check.faultOf(c + ":1"));
        }
        fault(1, "w");
        fault(1, "w;");
        fault(1, "ww:1");
        fault(1, "w1");
        fault(2, "w::1");
        fault(2, "w:");
        fault(2, "w:?1");
        fault(6, "w:p=1?");
        fault(6, "w:p=1?;");
        fault(6, "w:p=1??1");
        Check.says(12, "The FAULT of the TAPE; NONE.");
        ClogHouse x = new ClogHouse();
        Check.due("of an empty TAPE", 0, x.fault());
        Check.feed(x, "w:1+");
        Check.due("it ends too early", 4, x.fault());
        Check.due("asked again", 4, x.fault());
        Check.due("the TAPE is as it was", 4, x.count(8));
        Check.feed(x, "2");
        Check.due("NONE", -1, x.fault());
    }

    private static void conditions() {
        Check.says(12, "CONDITION: PARTS with | between; PART: UNITS with & between; UNIT: ! UNIT, ( CONDITION ), or SUM, one of = < >, SUM.");
        fault(-1, "w:p=1|h<2&o>3|!i=4?1");
        fault(-1, "w:(p=1|(h<2&!o>3))&!(i=4)?1");
        fault(5, "w:p=1");
        fault(5, "w:p=1;");
        fault(6, "w:p=1|");
        fault(6, "w:p=1||h=2?1");
        fault(6, "w:p=1&&h=2?1");
        fault(6, "w:p=1&|h=2?1");
        fault(6, "w:p=1|?1");
        fault(7, "w:p=1|h?1");
        fault(7, "w:p=1&2");
        fault(5, "w:p=1=1?1");
        fault(5, "w:p<1>1?1");
        fault(4, "w:p==1?1");
        fault(4, "w:p<=1?1");
        fault(4, "w:p>=1?1");
        fault(4, "w:p=!1?1");
        fault(4, "w:p=(1)?1");
        fault(2, "w:=1?1");
        fault(3, "w:p!=1?1");
        fault(3, "w:()?1");
        fault(4, "w:(p)?1");
        fault(5, "w:(p+");
    }

    private static void sums() {
        Check.says(12, "SUM: TERMS with + or - between; TERM: ATOMS with * or / between; ATOM: a number (1 to 4 digits), a letter (p h o i n k), [ SUM ].");
        fault(-1, "w:p*h/o+i-n*k");
        fault(-1, "w:0");
        fault(-1, "w:0000");
        fault(-1, "w:9999");
        fault(-1, "w:[[1]]");
        fault(2, "w:+1");
        fault(2, "w:-1");
        fault(2, "w:*1");
        fault(4, "w:1+-1");
        fault(4, "w:1*/1");
        fault(4, "w:1/");
        fault(3, "w:[]");
        fault(4, "w:[1;");
        fault(4, "w:[1");
        fault(5, "w:[1]]");
        fault(5, "w:[1][1]");
        fault(5, "w:[1]1");
        fault(3, "w:1[1]");
        fault(3, "w:p1");
        fault(3, "w:1p");
        fault(3, "w:ph");
        for (char c = 1; c < 256; c++) {
            boolean atom = c >= '0' && c <= '9' || "phoink".indexOf(c) >= 0;
            boolean open = c == '[' || c == '(' || c == '!' || c == ' ';
            Check.due("fault of w: and byte " + (int) c, atom ? -1 : open ? 3 : 2, Check.faultOf("w:" + c));
        }
        for (char c = 1; c < 256; c++) {
            boolean ends = c >= '0' && c <= '9' || c == ' ';
            boolean goesOn = "+-*/=<>;".indexOf(c) >= 0;
            Check.due("fault of w:1 and byte " + (int) c, ends ? -1 : goesOn ? 4 : 3, Check.faultOf("w:1" + c));
        }
    }

    private static void firstSign() {
        Check.says(12, "(A CLAUSE that goes on, behind its : , with ! or ( has a CONDITION.)");
        fault(-1, "w:!p=1?1");
        fault(-1, "w:(p=1)?1");
        fault(6, "w:!p=1");
        fault(6, "w:!p=1;");
        fault(7, "w:(p=1)");
        fault(7, "w:(p=1);");
        fault(7, "w:(p=1)+1?1");
        fault(7, "w:(p=1)=1?1");
        fault(4, "w:(1)+1");
        fault(4, "w:!1");
        fault(-1, "w:[p]=1?1");
        fault(-1, "w:[p]+1");
    }

    private static void blanks() {
        Check.says(12, "Blanks (32) may stand between all these, not within numbers;");
        fault(-1, "w :  1 ;   r : ! ( p = 1 & h < 2 | o > [ 3 ] ) ? 4 + 5 * 6 / 7 - 8");
        fault(-1, "w:1234 ");
        fault(4, "w:1 2");
        fault(7, "w:1234 5");
        fault(3, "w:1\t+1");
        fault(3, "w:1\n");
        fault(3, "w:1" + (char) 160 + "+1");
        fault(4, "w:  ");
        fault(5, "w:1; ");
        fault(4, "w:  ;");
        fault(3, "w  1");
        fault(2, "  ");
    }

    private static void depth() {
        Check.says(12, "at most six of ( [ ! within one another.");
        String[] opened = {"[", "(", "!"};
        String[] closed = {"]", ")", ""};
        for (int kind = 0; kind < 3; kind++) {
            for (int many = 1; many <= 8; many++) {
                String open = opened[kind].repeat(many);
                String close = closed[kind].repeat(many);
                String text = kind == 0 ? "w:" + open + "1" + close : "w:" + open + "1=1" + close + "?1";
                fault(many <= 6 ? -1 : 8, text);
            }
        }
        fault(-1, "w:!(!(!(1=1)))?1");
        fault(8, "w:!(!(!([1]=1)))?1");
        fault(8, "w:((((((!1=1))))))?1");
        fault(11, "w:((((((1=1");
        fault(-1, "w:((((([1]=1)))))?1");
        fault(-1, "w:(1=1&!!!!!1=1|!!!!!1=1)?1");
        fault(12, "w:(1=1&!!!!!!1=1)?1");
        fault(12, "w:(1=1|!!!!!!1=1)?1");
        fault(-1, "w:((((1=1&!!1=1))))?1");
        fault(-1, "w:1=[[[[[[1]]]]]]?1");
        fault(10, "w:1=[[[[[[[1]]]]]]]?1");
        fault(-1, "w:1=1|((((((1=1))))))?1");
        fault(12, "w:1=1|(((((((1=1)))))))?1");
        fault(-1, "w:1=1&!!!!!!1=1?1");
        fault(12, "w:1=1&!!!!!!!1=1?1");
        fault(12, "w:((((1=1&!!!1=1))))?1");
        fault(12, "w:(((((1=[1+[2]])))))?1");
        Check.due("beside one another they are not counted", -1,
            Check.faultOf("w:[1]+[1]+[1]+[1]+[1]+[1]+[1]+[[[[[[1]]]]]]"));
        fault(-1, "w:(1=1)&(1=1)|!1=1&!1=1|!1=1|!1=1&!1=1?[1]");
        fault(-1, "w:!!!!!!1=1&!!!!!!1=1?[[[[[[1]]]]]]");
        fault(-1, "w:!!!!!!1=1?1;w:[[[[[[1]]]]]]");
        Check.says(12, "a fifth digit, a seventh of these are such.");
        fault(6, "w:12345");
        fault(6, "w:00000");
        fault(8, "w:1=12345");
        fault(10, "w:1=1?12345");
        fault(13, "w:1;r:p+[12345");
        fault(8, "w:[[[[[[[");
        fault(8, "w:!!!!!!!");
        fault(8, "w:(((((((");
        fault(12, "w:[1]*[[[[[[[1");
        fault(9, "w:! !!!!!!1=1?1");
    }

    private static void faultAtAnyByte() {
        Check.says(12, "FAULT: the first byte at which no text can go on (the length, if it ends too early);");
        String text = "w:!(p=1&h<[2+3])|o>4*5?6/7;u:8";
        fault(-1, text);
        for (int i = 0; i < text.length(); i++) {
            // a byte that no text has: the FAULT is just there
            Check.due("x at " + i, i, Check.faultOf(text.substring(0, i) + "x" + text.substring(i)));
            Check.due("1 at " + i, i, Check.faultOf(text.substring(0, i) + (char) 1));
        }
        for (int i = 0; i <= text.length(); i++) {
            boolean whole = i == 24 || i == 26 || i == text.length();
            Check.due("its first " + i + " bytes", whole ? -1 : i, Check.faultOf(text.substring(0, i)));
        }
        fault(4, "w:1;x:1;y");
    }

    private static void faultOfLongTapes() {
        Check.says(12, "(the length, if it ends too early)");
        fault(-1, "w:1" + "+1".repeat(78));
        Check.due("160 bytes that end too early", 160, Check.faultOf("w:1" + "+1".repeat(78) + "*"));
        fault(-1, "w:1;".repeat(39) + "w:12");
        Check.due("160 bytes, the last is a ;", 160, Check.faultOf("w:1;".repeat(40)));
        Check.due("160 blanks", 160, Check.faultOf(" ".repeat(160)));
        Check.due("160 bytes: the first", 0, Check.faultOf("x".repeat(160)));
        Check.due("160 bytes: the last", 159, Check.faultOf("w:1" + "+1".repeat(78) + "x"));
    }

    private static void rulesBounds() {
        Check.says(13, "The TAPE (empty then) are RULES: their number.");
        ClogHouse x = new ClogHouse();
        Check.feed(x, "w:7");
        Check.due("the first", 0, x.rules());
        Check.due("the TAPE is empty", 0, x.count(8));
        Check.due("and an empty one has a FAULT", 0, x.fault());
        Check.says(13, "NONE: a FAULT");
        Check.due("empty", -1, x.rules());
        Check.feed(x, "w:7;");
        Check.due("it ends too early", -1, x.rules());
        Check.due("the TAPE is as it was", 4, x.count(8));
        Check.due("there is still one", 1, x.count(5));
        Check.says(13, "RULES (12 texts at most)");
        for (int i = 1; i <= 11; i++) {
            Check.due("rules()", i, Check.rulesOf(x, "w:" + (i + 7)));
        }
        Check.due("count(5)", 12, x.count(5));
        for (int i = 0; i <= 11; i++) {
            Check.due("each is kept", i + 7, x.worth(i, 'w', 0, 0, 0, 0, 0, 0));
        }
        Check.says(13, "there are twelve.");
        Check.due("a thirteenth", -1, Check.rulesOf(x, "w:1"));
        Check.due("the TAPE is as it was", 3, x.count(8));
        Check.due("count(5)", 12, x.count(5));
        Check.due("there are no RULES 12", true, Check.throwsNoSuch(x, 12, 'w'));
        ClogHouse y = new ClogHouse();
        Check.feed(y, "w:1" + "+1".repeat(78) + "1");
        Check.due("of 160 bytes", 0, y.rules());
        Check.due("1 + 77 * 1 + 11", 1 + 77 + 11, y.worth(0, 'w', 0, 0, 0, 0, 0, 0));
    }

    private static void ruleBounds() {
        Check.says(14, "A FILTER has RULES, or none (NONE).");
        Check.says(14, "A FILTER has RULES, or none.");
        ClogHouse x = new ClogHouse();
        x.cell(x.filter(), 5, 5);
        Check.rulesOf(x, "r:1");
        Check.rulesOf(x, "w:1");
        x.hours(1);
        Check.due("none at first: it RUNS", 1, x.told(0, 0));
        Check.due("rule(0, 0)", true, x.rule(0, 0));
        x.hours(1);
        Check.due("it RESTS", 3, x.told(0, 0));
        Check.due("rule(0, 1)", true, x.rule(0, 1));
        x.hours(1);
        Check.due("it is WASHED", 2, x.told(0, 0));
        Check.due("rule(0, NONE)", true, x.rule(0, ClogHouse.NONE));
        x.hours(1);
        Check.due("it RUNS", 1, x.told(0, 0));
        Check.due("none, though it has none", true, x.rule(0, ClogHouse.NONE));
        Check.says(14, "False: no such ones.");
        x.rule(0, 0);
        Check.due("RULES 2", false, x.rule(0, 2));
        Check.due("RULES -2", false, x.rule(0, -2));
        Check.due("RULES 12", false, x.rule(0, 12));
        Check.due("FILTER 1", false, x.rule(1, 0));
        Check.due("FILTER -1", false, x.rule(-1, 0));
        Check.due("FILTER 1, none", false, x.rule(1, ClogHouse.NONE));
        int[] far = {Integer.MIN_VALUE, Integer.MAX_VALUE};
        for (int f : far) {
            Check.due("RULES " + f, false, x.rule(0, f));
            Check.due("FILTER " + f, false, x.rule(f, 0));
        }
        x.hours(1);
        Check.due("it has RULES 0 still", 3, x.told(0, 0));
    }

    private static int worth(String text, int p, int h) {
        ClogHouse x = new ClogHouse();
        int rules = Check.rulesOf(x, text);
        return x.worth(rules, 'w', p, h, 0, 0, 0, 0);
    }

    private static void worthSigns() {
        Check.says(15, "Behind each sign within -1,000,000 .. 1,000,000;");
        Check.due("1,000 * 1,000", 1000000, worth("w:1000*1000", 0, 0));
        Check.due("1,000 * 1,000 + 1", 1000000, worth("w:1000*1000+1", 0, 0));
        Check.due("1,001 * 1,000 - 1,000", 999000, worth("w:1001*1000-1000", 0, 0));
        Check.due("999,999 + 1", 1000000, worth("w:999*1000+999+1", 0, 0));
        Check.due("below: 0 - 1,000 * 1,000", -1000000, worth("w:0-1000*1000", 0, 0));
        Check.due("below: and 1 less", -1000000, worth("w:0-1000*1000-1", 0, 0));
        Check.due("below: and back", -999999, worth("w:0-1000*1000-9999+1", 0, 0));
        Check.due("within a TERM: 9,999 * 9,999 / 9,999", 100, worth("w:9999*9999/9999", 0, 0));
        Check.due("within [ ]", 0, worth("w:[1000*1000+5]-1000*1000", 0, 0));
        Check.due("in a CONDITION", 1, worth("w:9999*9999=1000*1000?1", 0, 0));
        Check.due("below in a CONDITION", 1, worth("w:0-9999*9999=0-1000*1000?1", 0, 0));
        Check.due("of greater letters +", 1000000, worth("w:p+h", Integer.MAX_VALUE, 1));
        Check.due("of greater letters *", 1000000, worth("w:p*h", Integer.MAX_VALUE, Integer.MAX_VALUE));
        Check.due("of greater letters -", -1000000, worth("w:p-h", Integer.MIN_VALUE, Integer.MAX_VALUE));
        Check.due("of greater letters /", 1000000, worth("w:p/h", Integer.MIN_VALUE, -1));
        Check.due("of greater letters, the least * the least", 1000000,
            worth("w:p*h", Integer.MIN_VALUE, Integer.MIN_VALUE));
    }

    private static void worthCuts() {
        Check.says(15, "/ cuts towards 0, by 0 gives 0.");
        Check.due("7 / 2", 3, worth("w:7/2", 0, 0));
        Check.due("-7 / 2", -3, worth("w:p/2", -7, 0));
        Check.due("7 / -2", -3, worth("w:7/p", -2, 0));
        Check.due("-7 / -2", 3, worth("w:p/h", -7, -2));
        Check.due("1 / 2", 0, worth("w:1/2", 0, 0));
        Check.due("-1 / 2", 0, worth("w:p/2", -1, 0));
        Check.due("by 0", 0, worth("w:7/0", 0, 0));
        Check.due("by a letter that is 0", 0, worth("w:7/p", 0, 0));
        Check.due("by [ ] that is 0", 5, worth("w:7/[p-3]+5", 3, 0));
        Check.due("0 / 0", 0, worth("w:0/0", 0, 0));
        Check.due("from the left: 7 / 2 * 2", 6, worth("w:7/2*2", 0, 0));
        Check.due("by 0, then times", 0, worth("w:7/0*9", 0, 0));
    }

    private static void worthOfClauses() {
        Check.says(15, "WORTH of a LABEL: the SUM of its first CLAUSE whose CONDITION holds (or has none); 0 without.");
        Check.due("the first", 1, worth("w:p=1?1;w:2;w:3", 1, 0));
        Check.due("its CONDITION does not hold", 2, worth("w:p=1?1;w:2;w:3", 2, 0));
        Check.due("one that holds behind others", 3, worth("w:p=1?1;w:p=2?2;w:p=3?3;w:4", 3, 0));
        Check.due("a first that is 0 is the first", 0, worth("w:p=1?0;w:2", 1, 0));
        Check.due("none holds", 0, worth("w:p=1?1;w:p=2?2", 3, 0));
        Check.due("none has that LABEL", 0, worth("r:1;c:2;u:3", 0, 0));
        Check.due("others do not count", 4, worth("r:1;c:2;u:3;w:4", 0, 0));
        Check.due("= at its bound", 1, worth("w:p=5?1", 5, 0));
        Check.due("< at its bound", 0, worth("w:p<5?1", 5, 0));
        Check.due("< below", 1, worth("w:p<5?1", 4, 0));
        Check.due("> at its bound", 0, worth("w:p>5?1", 5, 0));
        Check.due("> above", 1, worth("w:p>5?1", 6, 0));
        Check.due("& ahead of |", 1, worth("w:p=1|p=2&h=2?1", 1, 0));
        Check.due("& ahead of | from the left", 1, worth("w:p=2&h=2|p=1?1", 1, 0));
        Check.due("( )", 0, worth("w:(p=1|p=2)&h=2?1", 1, 0));
        Check.due("! of a UNIT alone", 0, worth("w:!p=2&p=2?1", 1, 0));
        Check.due("! of a UNIT alone, |", 1, worth("w:!p=1|p=1?1", 1, 0));
        Check.due("! of !", 1, worth("w:!!p=1?1", 1, 0));
        Check.due("- from the left", -4, worth("w:1-2-3", 0, 0));
        Check.due("* ahead of -", -5, worth("w:1-2*3", 0, 0));
        Check.due("[ ] first", -3, worth("w:[1-2]*3", 0, 0));
    }

    private static void worthLetters() {
        Check.says(15, "WORTH of a LABEL (its byte) of RULES, with letters.");
        ClogHouse x = new ClogHouse();
        Check.rulesOf(x, "r:9");
        int rules = Check.rulesOf(x, "w:p;r:h;c:o;u:i");
        Check.due("p", 2, x.worth(rules, 119, 2, 3, 5, 7, 11, 13));
        Check.due("h", 3, x.worth(rules, 114, 2, 3, 5, 7, 11, 13));
        Check.due("o", 5, x.worth(rules, 99, 2, 3, 5, 7, 11, 13));
        Check.due("i", 7, x.worth(rules, 117, 2, 3, 5, 7, 11, 13));
        rules = Check.rulesOf(x, "w:n;u:k");
        Check.due("n", 11, x.worth(rules, 119, 2, 3, 5, 7, 11, 13));
        Check.due("k", 13, x.worth(rules, 117, 2, 3, 5, 7, 11, 13));
        Check.due("of other RULES", 9, x.worth(0, 114, 2, 3, 5, 7, 11, 13));
        Check.due("0 without", 0, x.worth(rules, 99, 2, 3, 5, 7, 11, 13));
    }

    private static void worthRefused() {
        Check.says(15, "NoSuchElementException: no such ones.");
        ClogHouse x = new ClogHouse();
        Check.due("there are no RULES", true, Check.throwsNoSuch(x, 0, 'w'));
        Check.rulesOf(x, "w:1");
        Check.due("RULES 0", false, Check.throwsNoSuch(x, 0, 'w'));
        Check.due("RULES 1", true, Check.throwsNoSuch(x, 1, 'w'));
        Check.due("RULES -1", true, Check.throwsNoSuch(x, -1, 'w'));
        Check.due("the least RULES", true, Check.throwsNoSuch(x, Integer.MIN_VALUE, 'w'));
        Check.due("the greatest RULES", true, Check.throwsNoSuch(x, Integer.MAX_VALUE, 'w'));
        for (int label = -2; label <= 258; label++) {
            boolean is = label == 'w' || label == 'r' || label == 'c' || label == 'u';
            Check.due("LABEL " + label, !is, Check.throwsNoSuch(x, 0, label));
        }
        Check.due("LABEL w and 256", true, Check.throwsNoSuch(x, 0, 'w' + 256));
        Check.due("LABEL w and 65,536", true, Check.throwsNoSuch(x, 0, 'w' + 65536));
        Check.due("the least LABEL", true, Check.throwsNoSuch(x, 0, Integer.MIN_VALUE));
        Check.due("the greatest LABEL", true, Check.throwsNoSuch(x, 0, Integer.MAX_VALUE));
        Check.due("it goes on as before", 1, x.worth(0, 'w', 0, 0, 0, 0, 0, 0));
    }
}
