import java.math.BigInteger;
import java.util.ArrayList;
import java.util.Arrays;
import java.util.List;
import java.util.NoSuchElementException;

/**
 * The document once more, written in another way than the program: every push, order, way to change and
 * number held is tried in turn, loose and stuck grains are kept apart, texts are split, not read. The test
 * of random runs sets its answers against the program's.
 */
final class PlainHouse {
    static final class PCell {
        int told;
        int pore;
        int take;
        long[] loose = new long[8];
        long[] stuck = new long[8];

        long all() {
            return Arrays.stream(loose).sum() + Arrays.stream(stuck).sum();
        }

        int width() {
            return (int) Math.max(0, pore - all() / take);
        }

        int resist() {
            return width() == 0 ? -1 : Math.max(1, 10000 / width() / width());
        }
    }

    static final class PFilter {
        List<PCell> cells = new ArrayList<>();
        long[] cake = new long[8];
        int[] bounds = {100, 500, 50};
        int state;
        int since;
        int washes;
        int rules = -1;
        long share;
        long push;
        long out;
        boolean ran;
        boolean everRan;
        int ripe = -1;
        long ripeOut;

        boolean anyShut() {
            return cells.stream().anyMatch(c -> c.width() == 0);
        }

        long bed() {
            return cells.stream().mapToLong(PCell::resist).sum();
        }

        long cakeSum() {
            return Arrays.stream(cake).sum();
        }

        long least(long q) {
            if (anyShut()) {
                return -1;
            }
            long bed = bed();
            long cakes = cakeSum();
            for (long p = 0; p <= 100000; p++) {
                if (p >= q * (bed + cakes * (100 + p / bounds[0]) / 100) / 100) {
                    return p;
                }
            }
            return -1;
        }
    }

    static final class Hour {
        long[] came = new long[8];
        long[] out = new long[8];
        long[] round = new long[8];
    }

    final int[][] grain = new int[3][8];
    final List<PFilter> filters = new ArrayList<>();
    final StringBuilder tape = new StringBuilder();
    final List<String> texts = new ArrayList<>();
    final List<Hour> hourList = new ArrayList<>();
    final List<int[]> layers = new ArrayList<>();
    final List<int[]> readings = new ArrayList<>();
    final int[] costs = new int[20];
    final int[] many = new int[8];
    final long[] washedOut = new long[8];
    final long[] carried = new long[8];
    int price;
    int q;

    PlainHouse() {
        Arrays.fill(grain[0], 200);
        Arrays.fill(grain[1], 600);
        Arrays.fill(grain[2], 50);
    }

    private static boolean in(int v, int a, int b) {
        return a <= v && v <= b;
    }

    private PFilter at(int f) {
        return in(f, 0, filters.size() - 1) ? filters.get(f) : null;
    }

    private PCell at(int f, int c) {
        PFilter x = at(f);
        return x != null && in(c, 0, x.cells.size() - 1) ? x.cells.get(c) : null;
    }

    public boolean grain(int size, int what, int v) {
        if (!in(size, 0, 7) || !in(what, 0, 2) || !in(v, 0, 1000)) {
            return false;
        }
        grain[what][size] = v;
        return true;
    }

    public int filter() {
        if (filters.size() == 8) {
            return -1;
        }
        filters.add(new PFilter());
        return filters.size() - 1;
    }

    public int cell(int filter, int pore, int take) {
        PFilter f = at(filter);
        if (f == null || f.everRan || f.cells.size() == 10 || !in(pore, 1, 20) || !in(take, 1, 1000)) {
            return -1;
        }
        PCell c = new PCell();
        c.told = pore;
        c.pore = pore;
        c.take = take;
        f.cells.add(c);
        return f.cells.size();
    }

    public boolean set(int filter, int what, int v) {
        PFilter f = at(filter);
        if (f == null || !in(what, 0, 2) || !in(v, 1, what == 2 ? 200 : 1000)) {
            return false;
        }
        f.bounds[what] = v;
        return true;
    }

    public int celled(int filter, int cell, int what) {
        PCell c = at(filter, cell);
        if (c == null || !in(what, 0, 4)) {
            return -1;
        }
        return new int[] {c.pore, c.take, c.width(), c.resist(), (int) c.all()}[what];
    }

    public int held(int filter, int cell, int size, int what) {
        PCell c = at(filter, cell);
        if (c == null || !in(size, 0, 7) || !in(what, 0, 1)) {
            return -1;
        }
        return (int) (what == 1 ? c.stuck[size] : c.stuck[size] + c.loose[size]);
    }

    public int told(int filter, int what) {
        PFilter f = at(filter);
        if (f == null || !in(what, 0, 8)) {
            return -1;
        }
        long[] row = {f.state, f.since, f.washes, f.cakeSum(), f.anyShut() ? -1 : f.bed(), f.cells.size(), f.share,
            f.push, f.out};
        return (int) row[what];
    }

    public int push(int filter, int stream) {
        PFilter f = at(filter);
        return f == null || !in(stream, 1, 1000) ? -1 : (int) f.least(stream);
    }

    public int feed(int a, int b, int c, int d, int e) {
        StringBuilder more = new StringBuilder();
        for (int number : new int[] {a, b, c, d, e}) {
            for (byte x : BigInteger.valueOf(number & 0xFFFFFFFFL).toByteArray()) {
                if (x != 0) {
                    more.append((char) (x & 255));
                }
            }
        }
        if (tape.length() + more.length() > 160) {
            return -1;
        }
        tape.append(more);
        return tape.length();
    }

    public boolean end(int n) {
        if (!in(n, 0, tape.length())) {
            return false;
        }
        tape.setLength(n);
        return true;
    }

    public int fault() {
        return PlainRules.fault(tape.toString());
    }

    public int rules() {
        if (fault() != -1 || texts.size() == 12) {
            return -1;
        }
        texts.add(tape.toString());
        tape.setLength(0);
        return texts.size() - 1;
    }

    public boolean rule(int filter, int rules) {
        if (at(filter) == null || !in(rules, -1, texts.size() - 1)) {
            return false;
        }
        at(filter).rules = rules;
        return true;
    }

    public int worth(int rules, int label, int p, int h, int o, int i, int n, int k) {
        if (!in(rules, 0, texts.size() - 1) || label != 'w' && label != 'r' && label != 'c' && label != 'u') {
            throw new NoSuchElementException();
        }
        return PlainRules.worth(texts.get(rules), (char) label, new long[] {p, h, o, i, n, k});
    }

    public boolean stream(int v) {
        if (in(v, 1, 1000)) {
            q = v;
            return true;
        }
        return false;
    }

    public boolean come(int size, int v) {
        if (in(size, 0, 7) && in(v, 0, 9999)) {
            many[size] = v;
            return true;
        }
        return false;
    }

    public int hours(int n) {
        if (!in(n, 0, 200) || hourList.size() + n > 2000) {
            return -1;
        }
        for (int i = 0; i < n; i++) {
            hour();
        }
        return hourList.size();
    }

    private long say(int f, char label) {
        PFilter x = filters.get(f);
        return PlainRules.worth(texts.get(x.rules), label, new long[] {x.push, x.since, x.out, f, x.washes, x.cakeSum()});
    }

    private void change(PFilter f) {
        for (int s = 0; s < 8; s++) {
            carried[s] += f.cake[s];
            for (PCell c : f.cells) {
                carried[s] += c.loose[s] + c.stuck[s];
            }
        }
        f.cake = new long[8];
        for (PCell c : f.cells) {
            c.loose = new long[8];
            c.stuck = new long[8];
            c.pore = c.told;
        }
        f.since = 0;
        f.washes = 0;
    }

    private void hour() {
        Hour h = new Hour();
        hourList.add(h);
        for (int i = 0; i < filters.size(); i++) {
            PFilter f = filters.get(i);
            if (f.cells.isEmpty() || f.state == 4 || f.state == 5) {
                continue;
            }
            f.state = 1;
            if (f.rules >= 0) {
                if (say(i, 'c') != 0) {
                    change(f);
                } else if (say(i, 'w') != 0) {
                    f.state = f.washes + 1 > f.bounds[2] ? 5 : 2;
                } else if (say(i, 'r') != 0) {
                    f.state = 3;
                }
            }
        }
        for (int i = 0; i < filters.size(); i++) {
            PFilter f = filters.get(i);
            if (f.state == 2) {
                washOne(f, Math.min(1000, Math.max(0, say(i, 'u'))));
            }
        }
        flow(h);
    }

    private void washOne(PFilter f, long u) {
        for (PCell c : f.cells) {
            for (int s = 0; s < 8; s++) {
                long stays = c.loose[s] * grain[2][s] / 1000;
                c.stuck[s] += stays;
                c.loose[s] -= stays;
                long off = (c.loose[s] * grain[1][s] / 1000) * u / 1000;
                c.loose[s] -= off;
                washedOut[s] += off;
            }
            if (u > f.bounds[1] && c.pore < 20) {
                c.pore++;
            }
        }
        for (int s = 0; s < 8; s++) {
            washedOut[s] += f.cake[s];
        }
        f.cake = new long[8];
        f.since = 0;
        f.washes++;
    }

    private void flow(Hour h) {
        List<PFilter> runs = new ArrayList<>();
        List<PFilter> shutting = new ArrayList<>();
        for (PFilter f : filters) {
            f.ran = f.state == 1;
            f.everRan |= f.ran;
            f.share = 0;
            f.push = 0;
            f.out = 0;
            if (f.ran) {
                runs.add(f);
                if (f.anyShut()) {
                    shutting.add(f);
                }
            }
        }
        if (q > 0) {
            System.arraycopy(toLongs(many), 0, h.came, 0, 8);
            shareAndRun(h, runs, shutting);
        }
        for (PFilter f : filters) {
            if (f.state == 1 || f.state == 3) {
                f.since++;
            }
        }
        for (PFilter f : shutting) {
            f.state = 4;
        }
    }

    private static long[] toLongs(int[] row) {
        return Arrays.stream(row).asLongStream().toArray();
    }

    private void shareAndRun(Hour h, List<PFilter> runs, List<PFilter> shutting) {
        long[] weights = runs.stream().mapToLong(f -> f.anyShut() ? 0 : 1000000 / Math.max(1, f.bed() + f.cakeSum())).toArray();
        long[] shares = divide(q, weights);
        long[][] loads = new long[8][];
        for (int s = 0; s < 8; s++) {
            loads[s] = divide(h.came[s], shares);
            h.round[s] = h.came[s] - Arrays.stream(loads[s]).sum();
        }
        for (int i = 0; i < runs.size(); i++) {
            PFilter f = runs.get(i);
            f.share = shares[i];
            if (f.share == 0) {
                continue;
            }
            long[] load = new long[8];
            for (int s = 0; s < 8; s++) {
                load[s] = loads[s][i];
            }
            long p = f.least(f.share);
            if (p < 0) {
                shutting.add(f);
                for (int s = 0; s < 8; s++) {
                    h.round[s] += load[s];
                }
                continue;
            }
            f.push = p;
            long[] out = lead(f, load);
            f.out = Arrays.stream(out).sum();
            for (int s = 0; s < 8; s++) {
                h.out[s] += out[s];
            }
            if (Arrays.stream(load).sum() > 0 && (f.ripe < 0 || f.out < f.ripeOut)) {
                f.ripe = hourList.size();
                f.ripeOut = f.out;
            }
        }
    }

    /** All by its weights, cut; what is left over by one each to the lowest with weight. */
    private static long[] divide(long all, long[] weights) {
        long sum = Arrays.stream(weights).sum();
        long[] parts = new long[weights.length];
        if (sum == 0) {
            return parts;
        }
        long left = all;
        for (int i = 0; i < parts.length; i++) {
            parts[i] = all * weights[i] / sum;
            left -= parts[i];
        }
        for (int i = 0; i < parts.length; i++) {
            if (left > 0 && weights[i] > 0) {
                parts[i]++;
                left--;
            }
        }
        return parts;
    }

    private long[] lead(PFilter f, long[] load) {
        int[] widths = f.cells.stream().mapToInt(PCell::width).toArray();
        long[] out = new long[8];
        for (int s = 0; s < 8; s++) {
            long n = load[s];
            if (s >= widths[0]) {
                f.cake[s] += n;
                n = 0;
            }
            for (int c = 0; c < widths.length; c++) {
                long share = s >= widths[c] ? 1000 : grain[0][s] / (widths[c] - s);
                long kept = n * share / 1000;
                f.cells.get(c).loose[s] += kept;
                n -= kept;
            }
            out[s] = n;
        }
        return out;
    }

    public boolean hand(int filter, int what) {
        PFilter f = at(filter);
        if (f == null || !in(what, 0, 2) || what == 1 && f.state == 4 || what == 2 && f.state != 4) {
            return false;
        }
        if (what == 0) {
            change(f);
        }
        f.state = what == 1 ? 4 : 0;
        return true;
    }

    public int history(int hour, int size, int what) {
        if (!in(hour, 1, hourList.size()) || !in(size, 0, 7) || !in(what, 0, 2)) {
            return -1;
        }
        Hour h = hourList.get(hour - 1);
        return (int) (what == 0 ? h.came : what == 1 ? h.out : h.round)[size];
    }

    public int breaks(int size, int m) {
        if (!in(size, 0, 7) || m < 0) {
            return -1;
        }
        for (int i = 0; i < hourList.size(); i++) {
            long sum = 0;
            for (int s = size; s < 8; s++) {
                sum += hourList.get(i).out[s] + hourList.get(i).round[s];
            }
            if (sum > m) {
                return i + 1;
            }
        }
        return -1;
    }

    public int ripe(int filter) {
        return at(filter) == null ? -1 : at(filter).ripe;
    }

    private static BigInteger ways(int n, int d) {
        if (d == 0) {
            return BigInteger.ONE;
        }
        return n < d ? BigInteger.ZERO
            : ways(n - 1, d - 1).multiply(BigInteger.valueOf(n)).divide(BigInteger.valueOf(d));
    }

    public long share(int n, int k, int d, int what) {
        if (!in(n, 1, 60) || !in(k, 0, n) || !in(d, 0, n) || !in(what, 0, 1)) {
            return -1;
        }
        BigInteger common = ways(n - k, d).gcd(ways(n, d));
        return (what == 0 ? ways(n - k, d) : ways(n, d)).divide(common).longValueExact();
    }

    public int drops(int n, int k, int m) {
        if (!in(n, 1, 60) || !in(k, 0, n) || !in(m, 1, 1000000)) {
            return -1;
        }
        for (int d = 0; d <= n; d++) {
            if (ways(n - k, d).multiply(BigInteger.valueOf(m)).compareTo(ways(n, d)) <= 0) {
                return d;
            }
        }
        return -1;
    }

    public int layer(int pore, int take) {
        if (!in(pore, 1, 20) || !in(take, 1, 1000) || layers.size() == 6) {
            return -1;
        }
        layers.add(new int[] {pore, take});
        return layers.size() - 1;
    }

    public int order(int m, int i) {
        if (!in(m, 0, 1000000) || !in(i, -1, layers.size() - 1) || layers.isEmpty() || q == 0) {
            return -1;
        }
        int[] best = new int[7];
        best[6] = -1;
        tryOrders(new ArrayList<>(), m, best);
        return i == -1 ? best[6] : best[i];
    }

    private void tryOrders(List<Integer> top, int m, int[] best) {
        if (top.size() == layers.size()) {
            int h = hoursOf(top, m);
            if (h > best[6]) {
                best[6] = h;
                for (int i = 0; i < top.size(); i++) {
                    best[i] = top.get(i);
                }
            }
            return;
        }
        for (int l = 0; l < layers.size(); l++) {
            if (!top.contains(l)) {
                List<Integer> more = new ArrayList<>(top);
                more.add(l);
                tryOrders(more, m, best);
            }
        }
    }

    /** A whole house with this one filter. */
    private int hoursOf(List<Integer> order, int m) {
        PlainHouse alone = new PlainHouse();
        for (int i = 0; i < 3; i++) {
            System.arraycopy(grain[i], 0, alone.grain[i], 0, 8);
        }
        System.arraycopy(many, 0, alone.many, 0, 8);
        alone.q = q;
        alone.filter();
        for (int l : order) {
            alone.cell(0, layers.get(l)[0], layers.get(l)[1]);
        }
        for (int h = 0; h < 100; h++) {
            alone.hours(1);
            if (alone.breaks(0, m) != -1) {
                return h;
            }
        }
        return 100;
    }

    public boolean cost(int age, int v) {
        if (!in(age, -1, 19) || !in(v, 0, age == -1 ? 10000 : 1000)) {
            return false;
        }
        if (age == -1) {
            price = v;
        } else {
            costs[age] = v;
        }
        return true;
    }

    /** By hours from the end: of each age the least sum, and the latest first change with it. */
    public int cheapest(int t, int age, int what) {
        if (!in(t, 1, 60) || !in(age, 0, 19) || !in(what, 0, 1)) {
            return -1;
        }
        int[] sums = new int[100];
        int[] firsts = new int[100];
        Arrays.fill(firsts, 1000);
        for (int hour = t - 1; hour >= 0; hour--) {
            int[] newSums = new int[100];
            int[] newFirsts = new int[100];
            for (int a = 0; a < 99; a++) {
                int stay = costs[Math.min(a, 19)] + sums[a + 1];
                int change = price + costs[0] + sums[1];
                newSums[a] = Math.min(stay, change);
                newFirsts[a] = stay <= change ? firsts[a + 1] : hour;
            }
            sums = newSums;
            firsts = newFirsts;
        }
        return what == 0 ? sums[age] : firsts[age] == 1000 ? -1 : firsts[age];
    }

    public int gauge(int filter, int cell, int from, int to) {
        if (at(filter, cell) == null || from < 1 || to > 10000 || from > to || readings.size() == 100) {
            return -1;
        }
        readings.add(new int[] {filter, cell, from, to, hourList.size()});
        return readings.size() - 1;
    }

    private List<Integer> fitting(int filter, int cell, int hour, int upTo) {
        PCell c = at(filter, cell);
        List<Integer> fit = new ArrayList<>();
        for (int h = 0; h < c.pore * c.take; h++) {
            int w = c.pore - h / c.take;
            int resist = Math.max(1, 10000 / w / w);
            boolean ok = true;
            for (int i = 0; i <= upTo; i++) {
                int[] r = readings.get(i);
                ok &= r[0] != filter || r[1] != cell || r[4] > hour || r[2] <= resist && resist <= r[3];
            }
            if (ok) {
                fit.add(h);
            }
        }
        return fit;
    }

    public int back(int filter, int cell, int hour, int what) {
        if (at(filter, cell) == null || !in(hour, 0, hourList.size()) || !in(what, 0, 1)) {
            return -1;
        }
        List<Integer> fit = fitting(filter, cell, hour, readings.size() - 1);
        return fit.isEmpty() ? -1 : fit.get(what == 0 ? 0 : fit.size() - 1);
    }

    public int barred(int filter, int cell, int hour) {
        if (at(filter, cell) == null || !in(hour, 0, hourList.size())) {
            return -1;
        }
        for (int i = 0; i < readings.size(); i++) {
            if (fitting(filter, cell, hour, i).isEmpty()) {
                return i;
            }
        }
        return -1;
    }

    public int led(int size, int what) {
        if (!in(size, 0, 7) || !in(what, 0, 5)) {
            return -1;
        }
        long[] row = new long[6];
        for (Hour h : hourList) {
            row[0] += h.came[size];
            row[4] += h.out[size];
            row[5] += h.round[size];
        }
        row[2] = washedOut[size];
        row[3] = carried[size];
        for (PFilter f : filters) {
            row[1] += f.cake[size];
            for (PCell c : f.cells) {
                row[1] += c.loose[size] + c.stuck[size];
            }
        }
        return (int) row[what];
    }

    public int digest() {
        List<Long> numbers = new ArrayList<>();
        numbers.add((long) hourList.size());
        for (PFilter f : filters) {
            numbers.add((long) f.state);
            numbers.add((long) f.since);
            numbers.add((long) f.washes);
            for (long n : f.cake) {
                numbers.add(n);
            }
            for (PCell c : f.cells) {
                numbers.add((long) c.pore);
                for (int s = 0; s < 8; s++) {
                    numbers.add(c.loose[s] + c.stuck[s]);
                    numbers.add(c.stuck[s]);
                }
            }
        }
        BigInteger x = BigInteger.valueOf(7);
        for (long n : numbers) {
            x = x.multiply(BigInteger.valueOf(31)).add(BigInteger.valueOf(n)).mod(BigInteger.ONE.shiftLeft(32));
        }
        return x.intValue();
    }

    public int count(int what) {
        if (!in(what, 0, 9)) {
            return -1;
        }
        return new int[] {hourList.size(), filters.size(), (int) filters.stream().filter(f -> f.ran).count(),
            (int) filters.stream().filter(f -> f.state == 4).count(),
            (int) filters.stream().filter(f -> f.state == 5).count(), texts.size(), layers.size(), readings.size(),
            tape.length(), q}[what];
    }
}
