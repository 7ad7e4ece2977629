import java.lang.management.ManagementFactory;

/**
 * Rule 12 of LANGUAGE.md: all calls of one run live in one room. Rows are made in constructors, so that
 * no call makes anything but what the document has it keep (a FILTER, a CELL, RULES), or throws.
 */
public final class RoomTest {
    private static final int CALLS = 512;
    /** The room has some 7.3 million fields and elements. */
    private static final long BYTES_A_CALL = 4 * 7_300_000 / CALLS;
    /** What the Java machine may make beside the program. */
    private static final long SLACK = 1000;
    private static final String[] KINDS = {"hours", "history", "breaks", "order", "cheapest", "share, drops",
        "back, barred", "fault", "worth", "feed, end", "hand", "push", "told, celled, held, led, digest, count",
        "set, cost, grain, come, stream", "rule, ripe", "gauge", "what is refused"};

    private static com.sun.management.ThreadMXBean teller;
    private static long answers = 0;

    public static void main(String[] args) {
        if (!(ManagementFactory.getThreadMXBean() instanceof com.sun.management.ThreadMXBean)) {
            System.out.println("this Java does not tell what is made: nothing is measured");
            return;
        }
        teller = (com.sun.management.ThreadMXBean) ManagementFactory.getThreadMXBean();
        // once without looking, so that all classes are there
        for (int kind = 0; kind < KINDS.length; kind++) {
            bytesOf(kind);
        }
        for (int kind = 0; kind < KINDS.length; kind++) {
            Check.due(KINDS[kind] + ": these calls make nothing", true, bytesOf(kind) <= SLACK);
        }
        keepers();
        Check.due("they were answered", true, answers != 0);
        Check.finish();
    }

    private static long made() {
        return teller.getCurrentThreadAllocatedBytes();
    }

    /** What 512 calls of a kind make; those that lead there are not counted. */
    private static long bytesOf(int kind) {
        ClogHouse x = fullHouse();
        if (kind > 0) {
            x.hours(200);
        }
        long before = made();
        for (int i = 0; i < CALLS; i++) {
            answers += kind < 8 ? firstKinds(x, kind, i) : otherKinds(x, kind, i);
        }
        return made() - before;
    }

    private static long firstKinds(ClogHouse x, int kind, int i) {
        switch (kind) {
            case 0: return x.hours(i < 10 ? 199 : i < 20 ? 1 : 0);
            case 1: return x.history(i, i % 8, i % 3);
            case 2: return x.breaks(i % 8, 10 * i);
            case 3: return x.order(i / 50, i % 6);
            case 4: return x.cheapest(1 + i % 60, i % 20, i % 2);
            case 5: return x.share(60, i % 61, i % 7, i % 2) + x.drops(60, i % 61, 1 + i);
            case 6: return x.back(0, 0, i % 200, i % 2) + x.barred(0, 0, i % 200);
            default: return x.fault();
        }
    }

    private static long otherKinds(ClogHouse x, int kind, int i) {
        switch (kind) {
            case 8: return x.worth(i % 12, "wrcu".charAt(i % 4), i, i, i, i, i, i);
            case 9: return x.feed(i, i, i, i, i) + (x.end(i % 9) ? 1 : 0);
            case 10: return x.hand(i % 8, i % 3) ? 1 : 0;
            case 11: return x.push(i % 8, 1 + i);
            case 12: return x.told(i % 8, i % 9) + x.celled(i % 8, i % 10, i % 5)
                + x.held(i % 8, i % 10, i % 8, i % 2) + x.led(i % 8, i % 6) + x.digest() + x.count(i % 10);
            case 13: return x.set(i % 8, i % 3, 1 + i) && x.cost(i % 20, i) && x.grain(i % 8, i % 3, i)
                && x.come(i % 8, i) && x.stream(1 + i) ? 1 : 0;
            case 14: return x.ripe(i % 8) + (x.rule(i % 8, i % 12) ? 1 : 0);
            case 15: return x.gauge(i % 8, i % 10, 1, 1 + i);
            default: return x.filter() + x.cell(i % 8, 5, 5) + x.layer(5, 5) + x.gauge(8, 0, 1, 1) + x.rules();
        }
    }

    /** What is made to be kept: each call that makes it, taken 512 times, fits into the room by far. */
    private static void keepers() {
        long start = made();
        ClogHouse x = new ClogHouse();
        long constructed = made();
        x.filter();
        long filtered = made();
        x.cell(0, 20, 1000);
        long celled = made();
        fullHouse();
        long all = made() - celled;
        Check.due("a house: 48,000 elements of HISTORY, little more", true, constructed - start < 4 * 50_000);
        Check.due("a FILTER", true, filtered - constructed < BYTES_A_CALL / 100);
        Check.due("a CELL", true, celled - filtered < BYTES_A_CALL / 100);
        Check.due("a full house", true, all - (constructed - start) < BYTES_A_CALL);
    }

    /** Eight FILTERS of ten CELLS with RULES, twelve texts, six LAYERS, 50 readings. */
    private static ClogHouse fullHouse() {
        ClogHouse x = new ClogHouse();
        for (int f = 0; f < 8; f++) {
            x.filter();
            for (int c = 0; c < 10; c++) {
                x.cell(f, 20 - c, 1000 - 90 * c);
            }
            x.come(f, 50);
            x.cost(f, 10 * f);
        }
        for (int r = 0; r < 12; r++) {
            feedRules(x);
            x.rules();
        }
        feedRules(x);
        for (int i = 0; i < 50; i++) {
            x.gauge(i % 8, i % 10, 1, 10000 - i);
        }
        for (int f = 0; f < 8; f++) {
            x.rule(f, f);
        }
        for (int i = 0; i < 6; i++) {
            x.layer(8 + i, 40);
        }
        x.stream(500);
        return x;
    }

    /** w:h>9?1;u:700;c:n>5?1;r:p>99?1, without a row or a text that would be counted. */
    private static void feedRules(ClogHouse x) {
        x.feed(word('w', ':', 'h', '>'), word('9', '?', '1', ';'), word('u', ':', '7', '0'),
            word('0', ';', 'c', ':'), word('n', '>', '5', '?'));
        x.feed(word('1', ';', 'r', ':'), word('p', '>', '9', '9'), word('?', '1', 0, 0), 0, 0);
    }

    private static int word(int a, int b, int c, int d) {
        return a << 24 | b << 16 | c << 8 | d;
    }
}
