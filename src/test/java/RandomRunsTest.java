import java.lang.reflect.InvocationTargetException;
import java.lang.reflect.Method;
import java.util.ArrayDeque;
import java.util.Deque;
import java.util.HashMap;
import java.util.Map;
import java.util.NoSuchElementException;
import java.util.Random;

/** Random runs of calls on a house and on a plain one; and texts, whole and broken, against their fault. */
public final class RandomRunsTest {
    private static final int RUNS = 250;
    private static final int CALLS = 512;
    private static final Map<String, Method> HOUSE = methodsOf(ClogHouse.class);
    private static final Map<String, Method> PLAIN = methodsOf(PlainHouse.class);

    private final Random random;
    private final ClogHouse house = new ClogHouse();
    private final PlainHouse plain = new PlainHouse();
    private final Deque<int[]> feeds = new ArrayDeque<>();
    private final int most;
    private final int longest;
    private int orders;
    private int scans;

    private RandomRunsTest(long seed) {
        random = new Random(seed);
        most = new int[] {5, 60, 700, 9999}[random.nextInt(4)];
        longest = new int[] {2, 10, 40}[random.nextInt(3)];
    }

    public static void main(String[] args) {
        int runs = args.length > 0 ? Integer.parseInt(args[0]) : RUNS;
        long first = args.length > 1 ? Long.parseLong(args[1]) : 1;
        for (long seed = first; seed < first + runs; seed++) {
            new RandomRunsTest(seed).run(seed);
        }
        texts();
        Check.finish();
    }

    private static Map<String, Method> methodsOf(Class<?> c) {
        Map<String, Method> map = new HashMap<>();
        for (Method m : c.getDeclaredMethods()) {
            if (java.lang.reflect.Modifier.isPublic(m.getModifiers())) {
                map.put(m.getName(), m);
            }
        }
        return map;
    }

    private void run(long seed) {
        for (int i = 0; i < CALLS; i++) {
            Object[] call = i < 25 ? building(i) : any();
            String name = (String) call[0];
            int[] arguments = (int[]) call[1];
            long want = answer(PLAIN.get(name), plain, arguments);
            long got = answer(HOUSE.get(name), house, arguments);
            Check.due("seed " + seed + " call " + i + " " + name + java.util.Arrays.toString(arguments), want, got);
            if (i % 16 == 0) {
                Check.due("seed " + seed + " digest behind " + name, plain.digest(), house.digest());
            }
        }
    }

    private static long answer(Method m, Object on, int[] arguments) {
        Object[] boxed = new Object[arguments.length];
        for (int i = 0; i < boxed.length; i++) {
            boxed[i] = arguments[i];
        }
        try {
            Object a = m.invoke(on, boxed);
            return a instanceof Boolean b ? (b ? 1 : 0) : ((Number) a).longValue();
        } catch (InvocationTargetException e) {
            if (e.getCause() instanceof NoSuchElementException) {
                return -777777777777L;
            }
            throw new IllegalStateException(m.getName(), e.getCause());
        } catch (IllegalAccessException e) {
            throw new IllegalStateException(e);
        }
    }

    private static Object[] call(String name, int... arguments) {
        return new Object[] {name, arguments};
    }

    /** A number of a .. b most times, else one at an edge or far out. */
    private int some(int a, int b) {
        int r = random.nextInt(40);
        if (r == 0) {
            return a - 1;
        }
        if (r == 1) {
            return b + 1;
        }
        if (r == 2 && random.nextInt(4) == 0) {
            return random.nextInt();
        }
        return r == 3 ? a : r == 4 ? b : a + random.nextInt(b - a + 1);
    }

    private int filter() {
        return some(0, Math.max(0, house.count(1) - 1));
    }

    private int cell(int filter) {
        return some(0, Math.max(0, house.told(filter, 5) - 1));
    }

    private Object[] building(int i) {
        switch (i % 5) {
            case 0: return call("filter");
            case 1: return call("cell", Math.max(0, house.count(1) - 1), some(1, 20), some(1, most < 100 ? 30 : 1000));
            case 2: return call("cell", filter(), some(1, 20), some(1, most < 100 ? 30 : 1000));
            case 3: return call("come", some(0, 7), some(0, most));
            default: return call("stream", some(1, random.nextBoolean() ? 1000 : 30));
        }
    }

    private Object[] any() {
        if (!feeds.isEmpty()) {
            return call("feed", feeds.remove());
        }
        int f = filter();
        switch (random.nextInt(40)) {
            case 0: case 1: case 2: case 3: case 4: case 5: return call("hours", hoursNow());
            case 6: return call("grain", some(0, 7), some(0, 2), some(0, 1000));
            case 7: return random.nextInt(4) == 0 ? call("filter") : call("digest");
            case 8: return call("cell", f, some(1, 20), some(1, 1000));
            case 9: return call("set", f, some(0, 2), some(1, random.nextInt(3) == 0 ? 1000 : 5));
            case 10: return call("celled", f, cell(f), some(0, 4));
            case 11: return call("held", f, cell(f), some(0, 7), some(0, 1));
            case 12: case 13: return call("told", f, some(0, 8));
            case 14: return call("push", f, some(1, 1000));
            case 15: case 16: return tell();
            case 17: return random.nextInt(4) == 0 ? call("end", some(0, house.count(8))) : call("fault");
            case 18: return call("rules");
            case 19: case 20: return call("rule", f, random.nextInt(4) == 0 ? -1 : some(0, Math.max(0, house.count(5) - 1)));
            case 21: return call("worth", some(0, Math.max(0, house.count(5) - 1)), "wrcuwrcux".charAt(random.nextInt(9)),
                letter(), letter(), letter(), letter(), letter(), letter());
            case 22: return call("stream", some(1, random.nextBoolean() ? 1000 : 30));
            case 23: return call("come", some(0, 7), some(0, most));
            case 24: case 25: return call("hand", f, some(0, 2));
            case 26: case 27: return call("history", some(1, Math.max(1, house.count(0))), some(0, 7), some(0, 2));
            case 28: return call("breaks", some(0, 7), some(0, most * 3));
            case 29: return call("ripe", f);
            case 30: return call("share", some(1, 60), some(0, 10), some(0, 20), some(0, 1));
            case 31: return call("drops", some(1, 60), some(0, 20), some(1, random.nextBoolean() ? 50 : 1000000));
            case 32: return call("layer", some(1, 20), some(1, most < 100 ? 30 : 1000));
            case 33: return orderOrCount();
            case 34: return call("cost", some(-1, 19), some(0, random.nextBoolean() ? 1000 : 20));
            case 35: return call("cheapest", some(1, 60), some(0, 19), some(0, 1));
            case 36: return call("gauge", f, cell(f), some(1, 5000), some(100, 10000));
            case 37: return gaugedBack(f);
            case 38: return call("led", some(0, 7), some(0, 5));
            default: return call("count", some(0, 9));
        }
    }

    private int hoursNow() {
        return random.nextInt(12) == 0 ? some(0, 200) : 1 + random.nextInt(longest);
    }

    private int letter() {
        return random.nextInt(10) == 0 ? random.nextInt() : random.nextInt(30);
    }

    private Object[] tell() {
        String text = new TextMaker(random).clauses();
        if (text.length() > 160) {
            return call("fault");
        }
        if (random.nextInt(5) == 0) {
            text = broken(random, text);
        }
        for (int i = 0; i < text.length(); i += 20) {
            int[] row = new int[5];
            for (int j = i; j < Math.min(text.length(), i + 20); j++) {
                row[(j - i) / 4] |= (text.charAt(j) & 255) << (24 - 8 * ((j - i) % 4));
            }
            feeds.add(row);
        }
        return call("end", 0);
    }

    /** The plain house tries every order at length, so a run asks it only a few times. */
    private Object[] orderOrCount() {
        if (orders > 1 || house.count(6) > 4 && random.nextInt(8) != 0) {
            return call("count", 6);
        }
        orders++;
        return call("order", some(0, most * 4), some(-1, Math.max(0, house.count(6) - 1)));
    }

    private Object[] gaugedBack(int f) {
        scans++;
        if (scans > 12) {
            return call("count", 7);
        }
        int hour = some(0, house.count(0));
        return random.nextBoolean() ? call("back", f, cell(f), hour, some(0, 1)) : call("barred", f, cell(f), hour);
    }

    private static String broken(Random random, String text) {
        StringBuilder b = new StringBuilder(text);
        for (int i = 0; i <= random.nextInt(3) && b.length() > 0; i++) {
            int at = random.nextInt(b.length());
            char c = "wrcu:;?|&!()[]=<>+-*/09 phoinkx".charAt(random.nextInt(31));
            switch (random.nextInt(3)) {
                case 0: b.deleteCharAt(at); break;
                case 1: b.insert(at, c); break;
                default: b.setCharAt(at, c); break;
            }
        }
        return b.toString();
    }

    private static void texts() {
        Random random = new Random(12);
        for (int i = 0; i < 60000; i++) {
            String text = new TextMaker(random).clauses();
            if (i % 4 != 0) {
                text = broken(random, text);
            }
            if (text.length() <= 160) {
                Check.due("fault of <" + text + ">", PlainRules.fault(text), Check.faultOf(text));
            }
        }
    }

    /** Makes texts that are right but for the bound of six, which it oversteps at times. */
    private static final class TextMaker {
        private final Random random;
        private final StringBuilder text = new StringBuilder();

        private TextMaker(Random random) {
            this.random = random;
        }

        private void put(String s) {
            text.append(s);
            if (random.nextInt(12) == 0) {
                text.append(' ');
            }
        }

        private String clauses() {
            int n = 1 + random.nextInt(5);
            for (int i = 0; i < n; i++) {
                if (i > 0) {
                    put(";");
                }
                put("wwrcuuu".charAt(random.nextInt(7)) + "");
                put(":");
                if (random.nextInt(4) != 0) {
                    condition(0);
                    put("?");
                }
                sum(0);
            }
            return text.toString();
        }

        private void condition(int depth) {
            unit(depth);
            while (random.nextInt(4) == 0) {
                put(random.nextBoolean() ? "&" : "|");
                unit(depth);
            }
        }

        private void unit(int depth) {
            int r = depth > 7 ? 9 : random.nextInt(10);
            if (r < 2) {
                put("!");
                unit(depth + 1);
            } else if (r == 2) {
                put("(");
                condition(depth + 1);
                put(")");
            } else {
                sum(depth + 1);
                put("=<>>".charAt(random.nextInt(4)) + "");
                sum(depth + 1);
            }
        }

        private void sum(int depth) {
            atom(depth);
            while (random.nextInt(3) == 0) {
                put("+-*/".charAt(random.nextInt(4)) + "");
                atom(depth);
            }
        }

        private void atom(int depth) {
            int r = depth > 7 ? 9 : random.nextInt(12);
            if (r == 0) {
                put("[");
                sum(depth + 1);
                put("]");
            } else if (r < 7) {
                put("phoink".charAt(random.nextInt(6)) + "");
            } else {
                put(random.nextInt(r < 9 ? 10000 : 6) + "");
            }
        }
    }
}
