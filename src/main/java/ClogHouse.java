import java.util.Arrays;
import java.util.NoSuchElementException;

/**
 * A house of filters that clog. Words in capitals in the comments (HOUR, CAKE, SHARE ..) are those
 * of the document.
 */
public final class ClogHouse {
    public static final int NONE = -1;

    private static final int SIZES = 8;
    private static final int MOST_FILTERS = 8;
    private static final int MOST_CELLS = 10;
    private static final int MOST_RULES = 12;
    private static final int MOST_LAYERS = 6;
    private static final int MOST_ORDERS = 720;
    private static final int MOST_READINGS = 100;
    private static final int MOST_BYTES = 160;
    private static final int MOST_DIGITS = 4;
    private static final int MOST_DEPTH = 6;
    private static final int LAST_HOUR = 2000;
    private static final int MOST_HOURS_A_CALL = 200;
    private static final int MOST_HOURS_OF_ORDER = 100;
    private static final int MOST_PORE = 20;
    private static final int MOST_TAKE = 1000;
    private static final int MOST_PUSH = 100000;
    private static final int MOST_STREAM = 1000;
    private static final int MOST_COMING = 9999;
    private static final int MOST_RESIST = 10000;
    private static final int MOST_WORTH = 1000000;
    private static final int MOST_DROPS = 60;
    private static final int MOST_CHANGE_HOURS = 60;
    private static final int AGES = 20;
    private static final int THOUSAND = 1000;
    private static final int MILLION = 1000000;

    private static final int NEW = 0;
    private static final int RUNS = 1;
    private static final int WASHED = 2;
    private static final int RESTS = 3;
    private static final int SHUT = 4;
    private static final int WORN_OUT = 5;

    private static final String LABELS = "wrcu";
    private static final String LETTERS = "phoink";
    /** No byte of a TAPE is 0, so 0 can stand for its end. */
    private static final char END = (char) 0;

    private final Grains grains;
    private final Filter[] filters;
    private final Text tape;
    private final Text[] ruleTexts;
    private final Reader reader;
    private final Stream water;
    private final Books books;
    private final Layers layers;
    private final Changes changes;
    private final Readings readings;
    private int filterCount;
    private int ruleCount;
    private int now;

    public ClogHouse() {
        grains = new Grains();
        filters = new Filter[MOST_FILTERS];
        tape = new Text(MOST_BYTES);
        ruleTexts = new Text[MOST_RULES];
        reader = new Reader();
        water = new Stream();
        books = new Books();
        layers = new Layers();
        changes = new Changes();
        readings = new Readings();
    }

    // ---- what is told of grains, filters and cells

    public boolean grain(int size, int what, int v) {
        if (!isSize(size) || !isWithin(what, 0, 2) || !isWithin(v, 0, THOUSAND)) {
            return false;
        }
        int[] row = what == 0 ? grains.stick : what == 1 ? grains.off : grains.stay;
        row[size] = v;
        layers.forgetOrder();
        return true;
    }

    public int filter() {
        if (filterCount < 0 || filterCount >= MOST_FILTERS) {
            return NONE;
        }
        filters[filterCount] = new Filter();
        filterCount++;
        return filterCount - 1;
    }

    public int cell(int filter, int pore, int take) {
        Filter f = filterAt(filter);
        if (f == null || f.everRan || !isWithin(pore, 1, MOST_PORE) || !isWithin(take, 1, MOST_TAKE)) {
            return NONE;
        }
        return f.addCell(pore, take) ? f.cellCount : NONE;
    }

    public boolean set(int filter, int what, int v) {
        Filter f = filterAt(filter);
        if (f == null || !isWithin(what, 0, 2) || !isWithin(v, 1, what == 2 ? 200 : THOUSAND)) {
            return false;
        }
        if (what == 0) {
            f.press = v;
        } else if (what == 1) {
            f.bear = v;
        } else {
            f.washesBorne = v;
        }
        return true;
    }

    public int celled(int filter, int cell, int what) {
        Cell c = cellAt(filter, cell);
        if (c == null) {
            return NONE;
        }
        switch (what) {
            case 0: return c.pore;
            case 1: return c.take;
            case 2: return c.width();
            case 3: return c.resistance();
            case 4: return c.heldInAll;
            default: return NONE;
        }
    }

    public int held(int filter, int cell, int size, int what) {
        Cell c = cellAt(filter, cell);
        if (c == null || !isSize(size) || !isWithin(what, 0, 1)) {
            return NONE;
        }
        return what == 0 ? c.holds[size] : c.stuck[size];
    }

    public int told(int filter, int what) {
        Filter f = filterAt(filter);
        if (f == null) {
            return NONE;
        }
        switch (what) {
            case 0: return f.state;
            case 1: return f.since;
            case 2: return f.washes;
            case 3: return f.cakeInAll();
            case 4: return f.bed();
            case 5: return f.cellCount;
            case 6: return f.latestShare;
            case 7: return f.latestPush;
            case 8: return f.latestOut;
            default: return NONE;
        }
    }

    public int push(int filter, int q) {
        Filter f = filterAt(filter);
        return f == null || !isWithin(q, 1, MOST_STREAM) ? NONE : f.pushWith(q);
    }

    // ---- the tape and the rules

    public int feed(int a, int b, int c, int d, int e) {
        int more = bytesIn(a) + bytesIn(b) + bytesIn(c) + bytesIn(d) + bytesIn(e);
        if (tape.length + more > MOST_BYTES) {
            return NONE;
        }
        tape.addBytes(a);
        tape.addBytes(b);
        tape.addBytes(c);
        tape.addBytes(d);
        tape.addBytes(e);
        return tape.length;
    }

    public boolean end(int n) {
        if (!isWithin(n, 0, tape.length)) {
            return false;
        }
        tape.length = n;
        return true;
    }

    public int fault() {
        return reader.faultIn(tape);
    }

    public int rules() {
        if (ruleCount < 0 || ruleCount >= MOST_RULES || reader.faultIn(tape) != NONE) {
            return NONE;
        }
        Text text = new Text(tape.length);
        text.copyFrom(tape);
        ruleTexts[ruleCount] = text;
        tape.length = 0;
        ruleCount++;
        return ruleCount - 1;
    }

    public boolean rule(int filter, int rules) {
        Filter f = filterAt(filter);
        if (f == null || !isWithin(rules, NONE, ruleCount - 1)) {
            return false;
        }
        f.ruleNumber = rules;
        return true;
    }

    public int worth(int rules, int label, int p, int h, int o, int i, int n, int k)
            throws NoSuchElementException {
        Text text = rulesAt(rules);
        // the bounds come first: a label's byte must not be made by cutting a greater number to a char
        if (text == null || !isWithin(label, 1, 255) || LABELS.indexOf((char) label) < 0) {
            throw new NoSuchElementException();
        }
        reader.tellLetters(p, h, o, i, n, k);
        return reader.worthOf((char) label, text);
    }

    // ---- the stream and its hours

    public boolean stream(int q) {
        if (!isWithin(q, 1, MOST_STREAM)) {
            return false;
        }
        water.q = q;
        layers.forgetOrder();
        return true;
    }

    public boolean come(int size, int many) {
        if (!isSize(size) || !isWithin(many, 0, MOST_COMING)) {
            return false;
        }
        water.many[size] = many;
        layers.forgetOrder();
        return true;
    }

    public int hours(int n) {
        if (!isWithin(n, 0, MOST_HOURS_A_CALL) || now + n > LAST_HOUR) {
            return NONE;
        }
        for (int i = 0; i < n; i++) {
            now++;
            for (int f = 0; f < filterCount; f++) {
                decide(f);
            }
            for (int f = 0; f < filterCount; f++) {
                wash(f);
            }
            shareStream();
            shareGrains();
            for (int f = 0; f < filterCount; f++) {
                run(f);
            }
            for (int f = 0; f < filterCount; f++) {
                closeHour(f);
            }
        }
        return now;
    }

    public boolean hand(int filter, int what) {
        Filter f = filterAt(filter);
        if (f == null || !isWithin(what, 0, 2)) {
            return false;
        }
        if (what == 0) {
            f.change(books);
            f.state = NEW;
            return true;
        }
        boolean shut = f.state == SHUT;
        if (shut == (what == 1)) {
            return false;
        }
        f.state = shut ? NEW : SHUT;
        return true;
    }

    public int history(int hour, int size, int what) {
        if (!isWithin(hour, 1, now) || !isSize(size)) {
            return NONE;
        }
        switch (what) {
            case 0: return books.noted(Books.CAME, hour, size);
            case 1: return books.noted(Books.OUT, hour, size);
            case 2: return books.noted(Books.ROUND, hour, size);
            default: return NONE;
        }
    }

    public int breaks(int size, int m) {
        if (!isSize(size) || m < 0) {
            return NONE;
        }
        for (int hour = 1; hour <= now; hour++) {
            if (books.lostFrom(size, hour) > m) {
                return hour;
            }
        }
        return NONE;
    }

    public int ripe(int filter) {
        Filter f = filterAt(filter);
        return f == null ? NONE : f.bestHour;
    }

    // ---- tests of few drops

    public long share(int n, int k, int d, int what) {
        if (!isDrawn(n, k, d) || !isWithin(what, 0, 1)) {
            return NONE;
        }
        long clean = waysToDraw(n - k, d);
        long all = waysToDraw(n, d);
        return cut(what == 0 ? clean : all, commonPart(clean, all));
    }

    public int drops(int n, int k, int m) {
        if (!isDrawn(n, k, 0) || !isWithin(m, 1, MILLION)) {
            return NONE;
        }
        for (int d = 0; d <= n; d++) {
            // the lower number is divided, since the upper one times m may go beyond a long
            if (waysToDraw(n - k, d) <= cut(waysToDraw(n, d), m)) {
                return d;
            }
        }
        return NONE;
    }

    // ---- layers, changes, gauges

    public int layer(int pore, int take) {
        if (!isWithin(pore, 1, MOST_PORE) || !isWithin(take, 1, MOST_TAKE)) {
            return NONE;
        }
        return layers.addLayer(pore, take);
    }

    public int order(int m, int i) {
        if (!isWithin(m, 0, MILLION) || !isWithin(i, NONE, layers.layerCount - 1)
                || layers.layerCount < 1 || water.q < 1) {
            return NONE;
        }
        layers.findOrder(m, water, grains);
        return i == NONE ? layers.bestHours : layers.bestOrder[i];
    }

    public boolean cost(int age, int v) {
        if (!isWithin(age, NONE, AGES - 1) || !isWithin(v, 0, age == NONE ? 10000 : THOUSAND)) {
            return false;
        }
        if (age == NONE) {
            changes.price = v;
        } else {
            changes.costs[age] = v;
        }
        return true;
    }

    public int cheapest(int t, int age, int what) {
        if (!isWithin(t, 1, MOST_CHANGE_HOURS) || !isWithin(age, 0, AGES - 1) || !isWithin(what, 0, 1)) {
            return NONE;
        }
        changes.weigh(t, age);
        if (what == 0) {
            return changes.leastSum;
        }
        return changes.latestFirst < t ? changes.latestFirst : NONE;
    }

    public int gauge(int filter, int cell, int from, int to) {
        if (cellAt(filter, cell) == null || from < 1 || to > MOST_RESIST || from > to) {
            return NONE;
        }
        return readings.addReading(filter * MOST_CELLS + cell, from, to, now);
    }

    public int back(int filter, int cell, int q, int what) {
        Cell c = cellAt(filter, cell);
        if (c == null || !isWithin(q, 0, now) || !isWithin(what, 0, 1)) {
            return NONE;
        }
        readings.narrowAll(filter * MOST_CELLS + cell, q);
        return what == 0 ? readings.leastHeld(c) : readings.greatestHeld(c);
    }

    public int barred(int filter, int cell, int q) {
        Cell c = cellAt(filter, cell);
        if (c == null || !isWithin(q, 0, now)) {
            return NONE;
        }
        return readings.firstBarring(filter * MOST_CELLS + cell, q, c);
    }

    // ---- the whole house

    public int led(int size, int what) {
        if (!isSize(size)) {
            return NONE;
        }
        switch (what) {
            case 0: return books.cameInAll[size];
            case 1: return heldOfSize(size);
            case 2: return books.washedInAll[size];
            case 3: return books.carriedInAll[size];
            case 4: return books.outInAll[size];
            case 5: return books.roundInAll[size];
            default: return NONE;
        }
    }

    public int digest() {
        int x = 31 * 7 + now;
        for (int i = 0; i < filterCount; i++) {
            Filter f = filterAt(i);
            if (f != null) {
                x = f.digestOnto(x);
            }
        }
        return x;
    }

    public int count(int what) {
        switch (what) {
            case 0: return now;
            case 1: return filterCount;
            case 2: return filtersThatRan();
            case 3: return filtersThatAre(SHUT);
            case 4: return filtersThatAre(WORN_OUT);
            case 5: return ruleCount;
            case 6: return layers.layerCount;
            case 7: return readings.readingCount;
            case 8: return tape.length;
            case 9: return water.q;
            default: return NONE;
        }
    }

    // ---- the parts of an HOUR

    /** Part (1): what a FILTER does in this HOUR. */
    private void decide(int number) {
        Filter f = filterAt(number);
        if (f == null || f.cellCount < 1 || f.state == SHUT || f.state == WORN_OUT) {
            return;
        }
        f.state = RUNS;
        Text text = rulesAt(f.ruleNumber);
        if (text == null) {
            return;
        }
        f.tellLettersTo(reader, number);
        if (reader.worthOf('c', text) != 0) {
            f.change(books);
        } else if (reader.worthOf('w', text) != 0) {
            f.state = f.washes < f.washesBorne ? WASHED : WORN_OUT;
        } else if (reader.worthOf('r', text) != 0) {
            f.state = RESTS;
        }
    }

    /** Part (2); and what was told of the HOUR ahead is forgotten, since no rule asks for it any more. */
    private void wash(int number) {
        Filter f = filterAt(number);
        if (f == null) {
            return;
        }
        Text text = rulesAt(f.ruleNumber);
        if (f.state == WASHED && text != null) {
            f.tellLettersTo(reader, number);
            int u = reader.worthOf('u', text);
            f.washOut(Math.max(0, Math.min(THOUSAND, u)), grains, books);
        }
        f.latestShare = 0;
        f.latestPush = 0;
        f.latestOut = 0;
        f.ranLatest = f.state == RUNS;
        f.everRan = f.everRan || f.ranLatest;
    }

    /** Part (3), shares of Q. */
    private void shareStream() {
        long all = 0;
        for (int i = 0; i < filterCount; i++) {
            Filter f = filterAt(i);
            if (f != null && f.ranLatest) {
                f.weight = f.weightNow();
                f.shutBehind = f.bed() == NONE;
                all += f.weight;
            }
        }
        int left = water.q;
        for (int i = 0; i < filterCount; i++) {
            Filter f = filterAt(i);
            if (f != null && f.ranLatest) {
                f.latestShare = (int) cut((long) water.q * f.weight, all);
                left -= f.latestShare;
            }
        }
        for (int i = 0; i < filterCount && left > 0; i++) {
            Filter f = filterAt(i);
            if (f != null && f.ranLatest && f.weight > 0) {
                f.latestShare++;
                left--;
            }
        }
    }

    /** Part (3), GRAINS of each SIZE; what no share takes goes ROUND. */
    private void shareGrains() {
        for (int size = 0; size < SIZES; size++) {
            int many = water.comingOf(size);
            books.noteCame(now, size, many);
            int left = many;
            for (int i = 0; i < filterCount; i++) {
                Filter f = filterAt(i);
                if (f != null) {
                    f.load[size] = (int) cut((long) many * f.latestShare, water.q);
                    left -= f.load[size];
                }
            }
            for (int i = 0; i < filterCount && left > 0; i++) {
                Filter f = filterAt(i);
                if (f != null && f.latestShare > 0) {
                    f.load[size]++;
                    left--;
                }
            }
            books.noteRound(now, size, left);
        }
    }

    /** Part (4). */
    private void run(int number) {
        Filter f = filterAt(number);
        if (f == null || f.latestShare < 1) {
            return;
        }
        int before = f.loadInAll();
        boolean passes = f.pass(f.latestShare, grains);
        for (int size = 0; size < SIZES; size++) {
            if (passes) {
                books.noteOut(now, size, f.load[size]);
            } else {
                books.noteRound(now, size, f.load[size]);
            }
        }
        if (passes) {
            f.latestOut = f.loadInAll();
            f.rememberBest(now, before);
        } else {
            f.shutBehind = true;
        }
    }

    /** Part (5), and what a FILTER is behind this HOUR. */
    private void closeHour(int number) {
        Filter f = filterAt(number);
        if (f == null) {
            return;
        }
        if (f.state == RUNS || f.state == RESTS) {
            f.since++;
        }
        if (f.shutBehind) {
            f.state = SHUT;
            f.shutBehind = false;
        }
    }

    // ---- small helps

    private Filter filterAt(int number) {
        return isWithin(number, 0, filterCount - 1) && number < filters.length ? filters[number] : null;
    }

    private Cell cellAt(int filter, int cell) {
        Filter f = filterAt(filter);
        return f == null ? null : f.cellNumber(cell);
    }

    private Text rulesAt(int number) {
        return isWithin(number, 0, ruleCount - 1) && number < ruleTexts.length ? ruleTexts[number] : null;
    }

    private int filtersThatAre(int state) {
        int many = 0;
        for (int i = 0; i < filterCount; i++) {
            Filter f = filterAt(i);
            if (f != null && f.state == state) {
                many++;
            }
        }
        return many;
    }

    private int filtersThatRan() {
        int many = 0;
        for (int i = 0; i < filterCount; i++) {
            Filter f = filterAt(i);
            if (f != null && f.ranLatest) {
                many++;
            }
        }
        return many;
    }

    private int heldOfSize(int size) {
        int many = 0;
        for (int i = 0; i < filterCount; i++) {
            Filter f = filterAt(i);
            if (f != null) {
                many += f.heldOfSize(size);
            }
        }
        return many;
    }

    private static boolean isWithin(int v, int least, int most) {
        return v >= least && v <= most;
    }

    private static boolean isSize(int size) {
        return size >= 0 && size < SIZES;
    }

    private static boolean isDrawn(int n, int k, int d) {
        return isWithin(n, 1, MOST_DROPS) && isWithin(k, 0, n) && isWithin(d, 0, n);
    }

    /** a by b, cut; 0 where there is nothing to divide by. */
    private static long cut(long a, long b) {
        return b == 0 ? 0 : a / b;
    }

    private static int resistOf(int width) {
        if (width < 1) {
            return NONE;
        }
        int resist = MOST_RESIST / width / width;
        return resist < 1 ? 1 : resist;
    }

    /** In how many ways d of n are drawn; with n up to 60 no step goes beyond a long. */
    private static long waysToDraw(int n, int d) {
        if (d > n) {
            return 0;
        }
        long ways = 1;
        for (int i = 0; i < d; i++) {
            ways = cut(ways * (n - i), i + 1);
        }
        return ways;
    }

    private static long commonPart(long a, long b) {
        long x = a;
        long y = b;
        // Euclid's steps at least halve the greater number every second time, so 200 are far too many
        for (int i = 0; i < 200 && y != 0; i++) {
            long rest = x % y;
            x = y;
            y = rest;
        }
        return x;
    }

    private static int bytesIn(int number) {
        int many = 0;
        for (int shift = 24; shift >= 0; shift -= 8) {
            if (((number >>> shift) & 255) != 0) {
                many++;
            }
        }
        return many;
    }

    /** STICK, OFF and STAY of each SIZE. */
    private static final class Grains {
        private final int[] stick = new int[SIZES];
        private final int[] off = new int[SIZES];
        private final int[] stay = new int[SIZES];

        private Grains() {
            Arrays.fill(stick, 200);
            Arrays.fill(off, 600);
            Arrays.fill(stay, 50);
        }
    }

    /** Q (0 as long as none is told) and how many GRAINS of each SIZE come. */
    private static final class Stream {
        private final int[] many = new int[SIZES];
        private int q;

        private int comingOf(int size) {
            return q < 1 || !isSize(size) ? 0 : many[size];
        }

        private int comingInAll() {
            int all = 0;
            for (int size = 0; size < SIZES; size++) {
                all += comingOf(size);
            }
            return all;
        }
    }

    /** A CELL. What it holds is counted with what is STUCK in it. */
    private static final class Cell {
        private final int[] holds = new int[SIZES];
        private final int[] stuck = new int[SIZES];
        private int heldInAll;
        private int toldPore;
        private int pore;
        private int take;

        private Cell(int pore, int take) {
            this.toldPore = pore;
            this.pore = pore;
            this.take = take;
        }

        private int width() {
            int left = take < 1 ? 0 : pore - heldInAll / take;
            return left < 0 ? 0 : left;
        }

        private int resistance() {
            return resistOf(width());
        }

        private void empty() {
            Arrays.fill(holds, 0);
            Arrays.fill(stuck, 0);
            heldInAll = 0;
            pore = toldPore;
        }

        /** Holds its part of the grains, and leaves the others in load. */
        private void holdFrom(int[] load, Grains grains) {
            // WIDTH as the HOUR began: it must not narrow between one SIZE and the next
            int width = width();
            for (int size = 0; size < SIZES && size < load.length; size++) {
                int gap = width - size;
                long part = gap < 1 ? THOUSAND : grains.stick[size] / gap;
                int kept = (int) (load[size] * part / THOUSAND);
                load[size] -= kept;
                holds[size] += kept;
                heldInAll += kept;
            }
        }

        private void washOut(int u, Grains grains, Books books) {
            for (int size = 0; size < SIZES; size++) {
                long loose = holds[size] - stuck[size];
                long stays = loose * grains.stay[size] / THOUSAND;
                long comesOff = (loose - stays) * grains.off[size] / THOUSAND * u / THOUSAND;
                stuck[size] += (int) stays;
                holds[size] -= (int) comesOff;
                heldInAll -= (int) comesOff;
                books.noteWashed(size, (int) comesOff);
            }
        }
    }

    /** A FILTER, and what was told of it in the latest HOUR. */
    private static final class Filter {
        private final Cell[] cells = new Cell[MOST_CELLS];
        private final int[] cake = new int[SIZES];
        /** GRAINS on their way in this HOUR: those that come to it, then those that come OUT of it. */
        private final int[] load = new int[SIZES];
        private int cellCount;
        private int press = 100;
        private int bear = 500;
        private int washesBorne = 50;
        private int ruleNumber = NONE;
        private int state = NEW;
        private int since;
        private int washes;
        private int latestShare;
        private int latestPush;
        private int latestOut;
        private int bestHour = NONE;
        private int bestOut;
        private long weight;
        private boolean everRan;
        private boolean ranLatest;
        private boolean shutBehind;

        private boolean addCell(int pore, int take) {
            if (cellCount < 0 || cellCount >= MOST_CELLS) {
                return false;
            }
            cells[cellCount] = new Cell(pore, take);
            cellCount++;
            return true;
        }

        private Cell cellNumber(int number) {
            return isWithin(number, 0, cellCount - 1) && number < cells.length ? cells[number] : null;
        }

        private int cakeInAll() {
            int all = 0;
            for (int size = 0; size < SIZES; size++) {
                all += cake[size];
            }
            return all;
        }

        private int loadInAll() {
            int all = 0;
            for (int size = 0; size < SIZES; size++) {
                all += load[size];
            }
            return all;
        }

        private int heldOfSize(int size) {
            int all = isSize(size) ? cake[size] : 0;
            for (int i = 0; i < cellCount; i++) {
                Cell c = cellNumber(i);
                if (c != null && isSize(size)) {
                    all += c.holds[size];
                }
            }
            return all;
        }

        private int bed() {
            int sum = 0;
            for (int i = 0; i < cellCount; i++) {
                Cell c = cellNumber(i);
                int resist = c == null ? 0 : c.resistance();
                if (resist == NONE) {
                    return NONE;
                }
                sum += resist;
            }
            return sum;
        }

        private long weightNow() {
            int bed = bed();
            return bed == NONE ? 0 : cut(MILLION, Math.max(1, bed + cakeInAll()));
        }

        /**
         * What a push must reach grows with the push. So from 0 on, each push that falls short may
         * be raised to what it must reach without going over the least one that is enough.
         */
        private int pushWith(int q) {
            int bed = bed();
            if (bed == NONE) {
                return NONE;
            }
            long lies = cakeInAll();
            long p = 0;
            for (int i = 0; i <= MOST_PUSH && p <= MOST_PUSH; i++) {
                long must = q * (bed + lies * (100 + cut(p, press)) / 100) / 100;
                if (p >= must) {
                    return (int) p;
                }
                p = must;
            }
            return NONE;
        }

        /** Leads its load through with this share; false, with nothing moved, if there is no PUSH. */
        private boolean pass(int share, Grains grains) {
            int p = pushWith(share);
            if (p == NONE) {
                return false;
            }
            latestPush = p;
            Cell top = cellNumber(0);
            int width = top == null ? SIZES : top.width();
            for (int size = width; size < SIZES; size++) {
                if (isSize(size)) {
                    cake[size] += load[size];
                    load[size] = 0;
                }
            }
            for (int i = 0; i < cellCount; i++) {
                Cell c = cellNumber(i);
                if (c != null) {
                    c.holdFrom(load, grains);
                }
            }
            return true;
        }

        private void rememberBest(int hour, int came) {
            if (came > 0 && (bestHour == NONE || latestOut < bestOut)) {
                bestHour = hour;
                bestOut = latestOut;
            }
        }

        private void washOut(int u, Grains grains, Books books) {
            for (int i = 0; i < cellCount; i++) {
                Cell c = cellNumber(i);
                if (c != null) {
                    c.washOut(u, grains, books);
                    if (u > bear) {
                        c.pore = Math.min(MOST_PORE, c.pore + 1);
                    }
                }
            }
            for (int size = 0; size < SIZES; size++) {
                books.noteWashed(size, cake[size]);
                cake[size] = 0;
            }
            since = 0;
            washes++;
        }

        /** All that it holds is CARRIED OFF; what it is then, the caller says. */
        private void change(Books books) {
            for (int size = 0; size < SIZES; size++) {
                books.noteCarried(size, heldOfSize(size));
            }
            makeClean();
            since = 0;
            washes = 0;
        }

        private void makeClean() {
            Arrays.fill(cake, 0);
            for (int i = 0; i < cellCount; i++) {
                Cell c = cellNumber(i);
                if (c != null) {
                    c.empty();
                }
            }
        }

        private void tellLettersTo(Reader reader, int number) {
            reader.tellLetters(latestPush, since, latestOut, number, washes, cakeInAll());
        }

        private int digestOnto(int digest) {
            int x = 31 * digest + state;
            x = 31 * x + since;
            x = 31 * x + washes;
            for (int size = 0; size < SIZES; size++) {
                x = 31 * x + cake[size];
            }
            for (int i = 0; i < cellCount; i++) {
                Cell c = cellNumber(i);
                if (c != null) {
                    x = 31 * x + c.pore;
                    for (int size = 0; size < SIZES; size++) {
                        x = 31 * x + c.holds[size];
                        x = 31 * x + c.stuck[size];
                    }
                }
            }
            return x;
        }
    }

    /** A row of bytes: the TAPE, or RULES. */
    private static final class Text {
        private final char[] bytes;
        private int length;

        private Text(int room) {
            bytes = new char[Math.max(0, room)];
        }

        /** The four bytes of a number, the highest first, without those of 0. */
        private void addBytes(int number) {
            for (int shift = 24; shift >= 0; shift -= 8) {
                int b = (number >>> shift) & 255;
                if (b != 0 && length >= 0 && length < bytes.length) {
                    bytes[length] = (char) b;
                    length++;
                }
            }
        }

        private void copyFrom(Text other) {
            length = Math.min(bytes.length, other.length);
            for (int i = 0; i < length && i < bytes.length && i < other.bytes.length; i++) {
                bytes[i] = other.bytes[i];
            }
        }
    }

    /**
     * Reads RULES from the left to the right and reckons as it reads, so that one grammar serves
     * both FAULT and WORTH. A byte is passed only where a text can go on with it; behind a FAULT
     * sign() answers END, which ends every loop.
     */
    private static final class Reader {
        private final int[] letters = new int[6];
        private char[] bytes = new char[0];
        private int length;
        private int at;
        private int faultAt;
        private char label;
        private boolean holds;
        private long value;

        private void tellLetters(int p, int h, int o, int i, int n, int k) {
            letters[0] = p;
            letters[1] = h;
            letters[2] = o;
            letters[3] = i;
            letters[4] = n;
            letters[5] = k;
        }

        private int faultIn(Text text) {
            begin(text);
            boolean more = true;
            for (int i = 0; i <= MOST_BYTES && more; i++) {
                readClause();
                more = goesOn();
            }
            return faultAt;
        }

        private int worthOf(char wanted, Text text) {
            begin(text);
            boolean more = true;
            for (int i = 0; i <= MOST_BYTES && more; i++) {
                readClause();
                if (label == wanted && holds) {
                    return (int) value;
                }
                more = goesOn();
            }
            return 0;
        }

        private void begin(Text text) {
            bytes = text.bytes;
            length = Math.min(text.length, bytes.length);
            at = 0;
            faultAt = NONE;
        }

        /** The byte that is next, behind blanks; END at the end and behind a FAULT. */
        private char sign() {
            while (at >= 0 && at < length && at < bytes.length && bytes[at] == ' ') {
                at++;
            }
            return faultAt == NONE && at >= 0 && at < length && at < bytes.length ? bytes[at] : END;
        }

        private void fail() {
            if (faultAt == NONE) {
                faultAt = at;
            }
        }

        private void expect(char wanted) {
            if (sign() == wanted) {
                at++;
            } else {
                fail();
            }
        }

        private boolean goesOn() {
            char s = sign();
            if (s == ';') {
                at++;
                return true;
            }
            if (s != END) {
                fail();
            }
            return false;
        }

        private void readClause() {
            label = sign();
            if (LABELS.indexOf(label) < 0) {
                fail();
                return;
            }
            at++;
            expect(':');
            holds = true;
            char s = sign();
            if (s == '!' || s == '(') {
                holds = condition(unit(0), 0);
            } else {
                value = sum(0);
                s = sign();
                if (s != '=' && s != '<' && s != '>') {
                    return;
                }
                holds = condition(compared(value, 0), 0);
            }
            expect('?');
            value = sum(0);
        }

        /** A CONDITION whose first UNIT has been read. */
        private boolean condition(boolean first, int depth) {
            boolean any = part(first, depth);
            for (int i = 0; i < MOST_BYTES && sign() == '|'; i++) {
                at++;
                boolean next = part(unit(depth), depth);
                any = any || next;
            }
            return any;
        }

        /** A PART whose first UNIT has been read. */
        private boolean part(boolean first, int depth) {
            boolean all = first;
            for (int i = 0; i < MOST_BYTES && sign() == '&'; i++) {
                at++;
                boolean next = unit(depth);
                all = all && next;
            }
            return all;
        }

        private boolean unit(int depth) {
            char s = sign();
            if (s != '!' && s != '(') {
                return compared(sum(depth), depth);
            }
            if (depth >= MOST_DEPTH) {
                fail();
                return false;
            }
            at++;
            if (s == '!') {
                return !unit(depth + 1);
            }
            boolean inside = condition(unit(depth + 1), depth + 1);
            expect(')');
            return inside;
        }

        private boolean compared(long left, int depth) {
            char s = sign();
            if (s != '=' && s != '<' && s != '>') {
                fail();
                return false;
            }
            at++;
            long right = sum(depth);
            return s == '=' ? left == right : s == '<' ? left < right : left > right;
        }

        private long sum(int depth) {
            long v = term(depth);
            char s = sign();
            for (int i = 0; i < MOST_BYTES && (s == '+' || s == '-'); i++) {
                at++;
                long next = term(depth);
                v = bounded(s == '+' ? v + next : v - next);
                s = sign();
            }
            return v;
        }

        private long term(int depth) {
            long v = atom(depth);
            char s = sign();
            for (int i = 0; i < MOST_BYTES && (s == '*' || s == '/'); i++) {
                at++;
                long next = atom(depth);
                v = bounded(s == '*' ? v * next : cut(v, next));
                s = sign();
            }
            return v;
        }

        private long atom(int depth) {
            char s = sign();
            if (s >= '0' && s <= '9') {
                return number();
            }
            int letter = LETTERS.indexOf(s);
            if (letter >= 0 && letter < letters.length) {
                at++;
                return letters[letter];
            }
            if (s != '[' || depth >= MOST_DEPTH) {
                fail();
                return 0;
            }
            at++;
            long inside = sum(depth + 1);
            expect(']');
            return inside;
        }

        private long number() {
            long v = 0;
            for (int i = 0; at >= 0 && at < length && at < bytes.length; i++) {
                char s = bytes[at];
                if (s < '0' || s > '9') {
                    return v;
                }
                if (i >= MOST_DIGITS) {
                    fail();
                    return v;
                }
                v = 10 * v + (s - '0');
                at++;
            }
            return v;
        }

        private static long bounded(long v) {
            return Math.max(-MOST_WORTH, Math.min(MOST_WORTH, v));
        }
    }

    /** HISTORY and what LED asks for, but for what is held. */
    private static final class Books {
        private static final int CAME = 0;
        private static final int OUT = 1;
        private static final int ROUND = 2;
        private static final int A_HOUR = 3 * SIZES;

        private final int[] cameInAll = new int[SIZES];
        private final int[] washedInAll = new int[SIZES];
        private final int[] carriedInAll = new int[SIZES];
        private final int[] outInAll = new int[SIZES];
        private final int[] roundInAll = new int[SIZES];
        /** HISTORY of all HOURS that there may be, made once: no call makes a row of its own. */
        private final int[] rows = new int[LAST_HOUR * A_HOUR];

        private static int place(int what, int hour, int size) {
            return (hour - 1) * A_HOUR + what * SIZES + size;
        }

        private int noted(int what, int hour, int size) {
            int place = place(what, hour, size);
            return place >= 0 && place < rows.length ? rows[place] : 0;
        }

        private void note(int what, int hour, int size, int many) {
            int place = place(what, hour, size);
            if (place >= 0 && place < rows.length) {
                rows[place] += many;
            }
        }

        private void noteCame(int hour, int size, int many) {
            note(CAME, hour, size, many);
            cameInAll[size] += many;
        }

        private void noteOut(int hour, int size, int many) {
            note(OUT, hour, size, many);
            outInAll[size] += many;
        }

        private void noteRound(int hour, int size, int many) {
            note(ROUND, hour, size, many);
            roundInAll[size] += many;
        }

        private void noteWashed(int size, int many) {
            washedInAll[size] += many;
        }

        private void noteCarried(int size, int many) {
            carriedInAll[size] += many;
        }

        /** How many GRAINS of a SIZE or greater ones came OUT or went ROUND in an HOUR. */
        private int lostFrom(int size, int hour) {
            int all = 0;
            for (int s = size; s < SIZES; s++) {
                all += noted(OUT, hour, s) + noted(ROUND, hour, s);
            }
            return all;
        }
    }

    /** LAYERS, and the ORDER found last, kept till something told anew may change it. */
    private static final class Layers {
        private final int[] pores = new int[MOST_LAYERS];
        private final int[] takes = new int[MOST_LAYERS];
        private final int[] tried = new int[MOST_LAYERS];
        private final int[] bestOrder = new int[MOST_LAYERS];
        /** The FILTER that RUNS alone: it is used again for every order. */
        private final Filter alone = new Filter();
        private int layerCount;
        private int bestHours;
        private int foundFor = NONE;

        private int addLayer(int pore, int take) {
            if (layerCount < 0 || layerCount >= MOST_LAYERS || !alone.addCell(pore, take)) {
                return NONE;
            }
            pores[layerCount] = pore;
            takes[layerCount] = take;
            layerCount++;
            forgetOrder();
            return layerCount - 1;
        }

        private void forgetOrder() {
            foundFor = NONE;
        }

        /** Orders are tried from the lowest LAYERS up, so the first of the best ones is the one due. */
        private void findOrder(int m, Stream water, Grains grains) {
            if (foundFor == m) {
                return;
            }
            for (int i = 0; i < MOST_LAYERS; i++) {
                tried[i] = i;
            }
            bestHours = NONE;
            boolean more = true;
            for (int i = 0; i < MOST_ORDERS && more && bestHours < MOST_HOURS_OF_ORDER; i++) {
                int hours = hoursOfTried(m, water, grains);
                if (hours > bestHours) {
                    bestHours = hours;
                    System.arraycopy(tried, 0, bestOrder, 0, MOST_LAYERS);
                }
                more = toNextOrder();
            }
            foundFor = m;
        }

        private int hoursOfTried(int m, Stream water, Grains grains) {
            int coming = water.comingInAll();
            if (coming <= m) {
                return MOST_HOURS_OF_ORDER;
            }
            layOut();
            for (int hour = 0; hour < MOST_HOURS_OF_ORDER; hour++) {
                for (int size = 0; size < SIZES; size++) {
                    alone.load[size] = water.comingOf(size);
                }
                boolean passes = alone.weightNow() > 0 && alone.pass(water.q, grains);
                if (!passes || alone.loadInAll() > m) {
                    return hour;
                }
            }
            return MOST_HOURS_OF_ORDER;
        }

        private void layOut() {
            for (int i = 0; i < layerCount && i < MOST_LAYERS; i++) {
                Cell c = alone.cellNumber(i);
                int layer = tried[i];
                if (c != null && isWithin(layer, 0, MOST_LAYERS - 1)) {
                    c.toldPore = pores[layer];
                    c.take = takes[layer];
                }
            }
            alone.makeClean();
        }

        /** The order next above the tried one; false if there is none. */
        private boolean toNextOrder() {
            int turn = layerCount - 2;
            while (turn >= 0 && turn + 1 < MOST_LAYERS && tried[turn] > tried[turn + 1]) {
                turn--;
            }
            if (turn < 0) {
                return false;
            }
            int other = Math.min(layerCount, MOST_LAYERS) - 1;
            while (other > turn && tried[other] < tried[turn]) {
                other--;
            }
            swap(turn, other);
            int low = turn + 1;
            int high = layerCount - 1;
            while (low < high) {
                swap(low, high);
                low++;
                high--;
            }
            return true;
        }

        private void swap(int a, int b) {
            if (isWithin(a, 0, MOST_LAYERS - 1) && isWithin(b, 0, MOST_LAYERS - 1)) {
                int kept = tried[a];
                tried[a] = tried[b];
                tried[b] = kept;
            }
        }
    }

    /** COST by age, PRICE, and the sums that CHEAPEST is found by. */
    private static final class Changes {
        private final int[] costs = new int[AGES];
        /** Of each HOUR: the least sum from it to the end, if one changes in it; 0 at the end. */
        private final int[] fromChange = new int[MOST_CHANGE_HOURS + 1];
        private int price;
        private int leastSum;
        private int latestFirst;

        private void weigh(int t, int age) {
            if (!isWithin(t, 1, MOST_CHANGE_HOURS)) {
                return;
            }
            fromChange[t] = 0;
            for (int hour = t - 1; hour >= 0; hour--) {
                // one changes at most once in an HOUR: the next change is in the HOUR behind, or later
                findNext(hour + 1, t, costOf(0), 1);
                fromChange[hour] = price + leastSum;
            }
            findNext(0, t, 0, age);
        }

        /**
         * Finds the least sum, and the latest next change with it (t: none), with so much spent
         * ahead of HOUR from, and a thing of this age then.
         */
        private void findNext(int from, int t, int spent, int age) {
            int sum = spent;
            int best = NONE;
            for (int hour = from; hour <= t && hour < fromChange.length; hour++) {
                if (best == NONE || sum + fromChange[hour] <= best) {
                    best = sum + fromChange[hour];
                    latestFirst = hour;
                }
                sum += costOf(age + hour - from);
            }
            leastSum = best;
        }

        private int costOf(int age) {
            return age < 0 ? 0 : costs[Math.min(age, AGES - 1)];
        }
    }

    /** Readings of GAUGES; a CELL is told by one number, its FILTER's times ten and its own. */
    private static final class Readings {
        private final int[] cellNumbers = new int[MOST_READINGS];
        private final int[] froms = new int[MOST_READINGS];
        private final int[] tos = new int[MOST_READINGS];
        private final int[] toldIn = new int[MOST_READINGS];
        private int readingCount;
        private int low;
        private int high;

        private int addReading(int cellNumber, int from, int to, int hour) {
            if (readingCount < 0 || readingCount >= MOST_READINGS) {
                return NONE;
            }
            cellNumbers[readingCount] = cellNumber;
            froms[readingCount] = from;
            tos[readingCount] = to;
            toldIn[readingCount] = hour;
            readingCount++;
            return readingCount - 1;
        }

        private void openRange() {
            low = 1;
            high = MOST_RESIST;
        }

        /** Takes one reading into low .. high; false if it tells nothing of that CELL as known in q. */
        private boolean narrow(int reading, int cellNumber, int q) {
            if (!isWithin(reading, 0, MOST_READINGS - 1) || cellNumbers[reading] != cellNumber
                    || toldIn[reading] > q) {
                return false;
            }
            low = Math.max(low, froms[reading]);
            high = Math.min(high, tos[reading]);
            return true;
        }

        private void narrowAll(int cellNumber, int q) {
            openRange();
            for (int i = 0; i < readingCount; i++) {
                narrow(i, cellNumber, q);
            }
        }

        private int firstBarring(int cellNumber, int q, Cell c) {
            openRange();
            for (int i = 0; i < readingCount; i++) {
                if (narrow(i, cellNumber, q) && leastHeld(c) == NONE) {
                    return i;
                }
            }
            return NONE;
        }

        private boolean fits(int width) {
            return isWithin(resistOf(width), low, high);
        }

        private int leastHeld(Cell c) {
            for (int width = c.pore; width >= 1; width--) {
                if (fits(width)) {
                    return (c.pore - width) * c.take;
                }
            }
            return NONE;
        }

        private int greatestHeld(Cell c) {
            for (int width = 1; width <= c.pore; width++) {
                if (fits(width)) {
                    return (c.pore - width + 1) * c.take - 1;
                }
            }
            return NONE;
        }
    }
}
